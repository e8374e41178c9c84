/-! THE CLASS CHOOSES PARTNERS ON ALL EDGES. -/
theorem ff_snoc (q : Nat → Bool) : ∀ r k, ff q (r + 1) k = (ff q r k).or (if q (k + r) = true then some (k + r) else none)
  | 0, k => by
    rw [ff, ff, ff]
    simp
  | r + 1, k => by
    rw [ff, ff_snoc q r (k + 1), ff]
    by_cases c : q k = true
    · rw [if_pos c, if_pos c]
      rfl
    · rw [if_neg c, if_neg c, show k + 1 + r = k + (r + 1) by omega]
def qP (υ : rS) (a b j i : Nat) : Bool := decide (PN υ a b i = some j)
abbrev oM (n : Nat) : Prop := 19 ≤ n ∧ n ≤ 24
theorem oM_oC : ∀ n, oM n → oC n := fun n h => by omega
def tabC (σ υ : rS) (a b : Nat) : Prop := ∀ i' j', i' ≤ wl υ a → j' ≤ wl υ b → σ.2.2.1 24 (i' * 13 + j') = nI (RN υ a b (wl υ a - i') (wl υ b - j'))
def rowC (σ υ : rS) (a b k i : Nat) : Prop := (∀ i', i' < i → σ.2.2.1 22 (k * 12 + i') = oI (PN υ a b i')) ∧ ∀ j, j < wl υ b → σ.2.2.1 23 (k * 12 + j) = oI (ff (qP υ a b j) i 0)
/-- rows of other edges are as before -/
def sameR (σ τ : rS) (k : Nat) : Prop := ∀ x, (x < k * 12 ∨ k * 12 + 12 ≤ x) → τ.2.2.1 22 x = σ.2.2.1 22 x ∧ τ.2.2.1 23 x = σ.2.2.1 23 x
theorem sameR.tr {σ τ ρ : rS} {k : Nat} (h1 : sameR σ τ k) (h2 : sameR τ ρ k) : sameR σ ρ k := fun x hx => ⟨(h2 x hx).1.trans (h1 x hx).1, (h2 x hx).2.trans (h1 x hx).2⟩
abbrev o2 (n : Nat) : Prop := n = 22 ∨ n = 23
theorem choose_2 {υ : rS} (hv : VB υ) (hA : VA υ) {a b k : Nat} (ha : a < wn υ) (hb : b < wn υ) (hk : k < 42) : ∀ (r i fuel : Nat) (σ : rS), i + r = wl υ a → r < fuel → Kp oM υ σ → tabC σ υ a b → rowC σ υ a b k i → ∃ τ, lX5_choose_41 fuel (80 + 4 * a) (80 + 4 * b) (nI (k * 12)) (nI (frN υ a b i)) (nI i) σ = some ((), τ) ∧ Kp o2 σ τ ∧ sameR σ τ k ∧ rowC τ υ a b k (wl υ a) := by
  have h16 := hv.2.1
  obtain ⟨la1, la⟩ := l_ok hv ha
  obtain ⟨lb1, lb⟩ := l_ok hv hb
  intro r
  induction r with
  | zero =>
    intro i fuel σ hi hfu hkp ht hr
    obtain ⟨fu, rfl⟩ : ∃ fu, fuel = fu + 1 := ⟨fuel - 1, by omega⟩
    obtain rfl : i = wl υ a := by omega
    have la2 : σ.1 (80 + 4 * a) 4 = nI (wl υ a) := by rw [(hkp.1 _ (by omega)).1]; exact la1
    refine ⟨σ, ?_, Kp.rf _ _, fun _ _ => ⟨rfl, rfl⟩, hr⟩
    rw [lX5_choose_41, if_pos (bo_ok (by omega)), la2, if_pos ((kle (by omega) (by omega)).mpr (Nat.le_refl _))]
  | succ r ih =>
    intro i fuel σ hi hfu hkp ht hr
    obtain ⟨fu, rfl⟩ : ∃ fu, fuel = fu + 1 := ⟨fuel - 1, by omega⟩
    have la2 : σ.1 (80 + 4 * a) 4 = nI (wl υ a) := by rw [(hkp.1 _ (by omega)).1]; exact la1
    have el := wl_kp' hkp oM_oC
    have en := wn_kp' hkp oM_oC
    have cb := c_best (hkp.B oM_oC hv) (hkp.A oM_oC hA) (a := a) (b := b) (i := i) (by rw [en]; exact ha) (by rw [en]; exact hb) (by rw [el]; omega) (fun i' j' h1 h2 => by
      rw [el] at h1 h2 ⊢
      rw [RN_kp hkp oM_oC]
      exact ht i' j' h1 h2)
    rw [frN_kp hkp oM_oC, PN_kp hkp oM_oC] at cb
    have e1 : nI (k * 12) + nI i = nI (k * 12 + i) := kadd _ _
    rw [lX5_choose_41, if_pos (bo_ok (by omega)), la2, if_neg (by rw [kle (by omega) (by omega)]; omega), cb, Option.bind_some]
    simp only [vI_d, e1, kinB (show k * 12 + i < 2147483648 by omega), decide_eq_true (show k * 12 + i < 504 by omega), if_true, vS_d, kc (show k * 12 + i < 2147483648 by omega)]
    unfold jX5_choose_100
    simp only [vI_d, k1]
    have sn : ∀ j, ff (qP υ a b j) (i + 1) 0 = (ff (qP υ a b j) i 0).or (if qP υ a b j i = true then some i else none) := fun j => by
      rw [ff_snoc, Nat.zero_add]
    cases hp : PN υ a b i with
    | none =>
      have fr : frN υ a b (i + 1) = frN υ a b i := by rw [frN_s, hp]
      rw [if_pos (show oI none = -1 from rfl)]
      obtain ⟨τ, t1, t2, t3, t4⟩ := ih (i + 1) fu (uA σ 22 (k * 12 + i) (oI none)) (by omega) (by omega) (hkp.tr (Kp.uA (by omega))) (fun i' j' h1 h2 => by rw [uA_ne (by omega)]; exact ht i' j' h1 h2) ⟨fun i' hi' => by
        by_cases c : i' = i
        · rw [c, hp, uA_eq]
        · rw [uA_nj (by omega)]; exact hr.1 i' (by omega), fun j hj => by
        rw [uA_ne (by omega), hr.2 j hj, sn j]
        have : qP υ a b j i = false := by unfold qP; rw [hp]; exact decide_eq_false (by simp)
        rw [this]
        simp⟩
      rw [fr] at t1
      exact ⟨τ, t1, (Kp.uA (by omega)).tr t2, sameR.tr (fun x hx => ⟨uA_nj (by omega), uA_ne (by omega)⟩) t3, t4⟩
    | some j =>
      obtain ⟨j1, j2⟩ := PN_lt hp
      have fr : frN υ a b (i + 1) = j + 1 := by rw [frN_s, hp]
      have e2 : nI (k * 12) + nI j = nI (k * 12 + j) := kadd _ _
      have oj : oI (some j) = nI j := rfl
      rw [oj, if_neg (kne1 (by omega)), e2, kinB (by omega), decide_eq_true (show k * 12 + j < 504 by omega), if_pos rfl, kc (by omega), k1]
      obtain ⟨τ, t1, t2, t3, t4⟩ := ih (i + 1) fu (uA (uA σ 22 (k * 12 + i) (nI j)) 23 (k * 12 + j) (nI i)) (by omega) (by omega) ((hkp.tr (Kp.uA (by omega))).tr (Kp.uA (by omega))) (fun i' j' h1 h2 => by rw [uA_ne (by omega), uA_ne (by omega)]; exact ht i' j' h1 h2) ⟨fun i' hi' => by
        rw [uA_ne (by omega)]
        by_cases c : i' = i
        · rw [c, hp, uA_eq]; rfl
        · rw [uA_nj (by omega)]; exact hr.1 i' (by omega), fun j' hj' => by
        rw [sn j']
        by_cases c : j' = j
        · subst c
          have z : ff (qP υ a b j') i 0 = none := ff_none.mpr (fun i' h1 h2 => decide_eq_false (fun y => by
            have := PN_inc (show i' < i by omega) y hp
            omega))
          have : qP υ a b j' i = true := decide_eq_true hp
          rw [uA_eq, z, this]
          rfl
        · rw [uA_nj (by omega), uA_ne (by omega), hr.2 j' hj']
          have : qP υ a b j' i = false := by
            unfold qP
            rw [hp]
            exact decide_eq_false (fun y => c (Option.some.inj y).symm)
          rw [this]
          simp⟩
      rw [fr] at t1
      exact ⟨τ, t1, ((Kp.uA (by omega)).tr (Kp.uA (by omega))).tr t2, sameR.tr (fun x hx => ⟨by rw [uA_ne (by omega), uA_nj (by omega)], by rw [uA_nj (by omega), uA_ne (by omega)]⟩) t3, t4⟩
theorem choose_1 {υ : rS} (hv : VB υ) (hA : VA υ) {a b k : Nat} (ha : a < wn υ) (hb : b < wn υ) (hk : k < 42) : ∀ (r j fuel : Nat) (σ : rS), j + r = wl υ b → r < fuel → Kp oM υ σ → tabC σ υ a b → (∀ j', j' < j → σ.2.2.1 23 (k * 12 + j') = -1) → ∃ τ, lX5_choose_9 fuel (80 + 4 * a) (80 + 4 * b) (nI (k * 12)) (nI j) σ = some ((), τ) ∧ Kp o2 σ τ ∧ sameR σ τ k ∧ rowC τ υ a b k (wl υ a) := by
  have h16 := hv.2.1
  obtain ⟨la1, la⟩ := l_ok hv ha
  obtain ⟨lb1, lb⟩ := l_ok hv hb
  intro r
  induction r with
  | zero =>
    intro j fuel σ hj hfu hkp ht h
    obtain ⟨fu, rfl⟩ : ∃ fu, fuel = fu + 1 := ⟨fuel - 1, by omega⟩
    have lb2 : σ.1 (80 + 4 * b) 4 = nI (wl υ b) := by rw [(hkp.1 _ (by omega)).1]; exact lb1
    obtain ⟨τ, t1, t2⟩ := choose_2 hv hA ha hb hk (wl υ a) 0 1000 σ (by omega) (by omega) hkp ht ⟨fun i' hi' => by omega, fun j' hj' => by rw [h j' (by omega)]; rfl⟩
    refine ⟨τ, ?_, t2⟩
    rw [lX5_choose_9, if_pos (bo_ok (by omega)), lb2, if_pos ((kle (by omega) (by omega)).mpr (by omega))]
    exact t1
  | succ r ih =>
    intro j fuel σ hj hfu hkp ht h
    obtain ⟨fu, rfl⟩ : ∃ fu, fuel = fu + 1 := ⟨fuel - 1, by omega⟩
    have lb2 : σ.1 (80 + 4 * b) 4 = nI (wl υ b) := by rw [(hkp.1 _ (by omega)).1]; exact lb1
    obtain ⟨τ, t1, t2, t3, t4⟩ := ih (j + 1) fu (uA σ 23 (k * 12 + j) (-1)) (by omega) (by omega) (hkp.tr (Kp.uA (by omega))) (fun i' j' h1 h2 => by rw [uA_ne (by omega)]; exact ht i' j' h1 h2) (fun j' hj' => by
      by_cases c : j' = j
      · rw [c, uA_eq]
      · rw [uA_nj (by omega)]; exact h j' (by omega))
    refine ⟨τ, ?_, (Kp.uA (by omega)).tr t2, sameR.tr (fun x hx => ⟨uA_ne (by omega), uA_nj (by omega)⟩) t3, t4⟩
    have e2 : nI (k * 12) + nI j = nI (k * 12 + j) := kadd _ _
    rw [← t1, lX5_choose_9, if_pos (bo_ok (by omega)), lb2, if_neg (by rw [kle (by omega) (by omega)]; omega), e2, kinB (by omega), decide_eq_true (show k * 12 + j < 504 by omega), if_pos rfl, vS_d, vI_d, k1, kc (by omega)]
theorem c_choose {υ σ : rS} (hv : VB υ) (hA : VA υ) {a b k : Nat} (ha : a < wn υ) (hb : b < wn υ) (hk : k < 42) (hkp : Kp oM υ σ) (ht : tabC σ υ a b) : ∃ τ, fX5_choose (nI k) (80 + 4 * a) (80 + 4 * b) σ = some ((), τ) ∧ Kp o2 σ τ ∧ sameR σ τ k ∧ rowC τ υ a b k (wl υ a) := by
  have lb := (l_ok hv hb).2
  obtain ⟨τ, t1, t2⟩ := choose_1 hv hA ha hb hk (wl υ b) 0 1000 σ (by omega) (by omega) hkp ht (fun j hj => by omega)
  refine ⟨τ, ?_, t2⟩
  unfold fX5_choose
  have e : nI k * 12 = nI (k * 12) := kmul k 12
  rw [vI_d, e]
  exact t1
/-- the matchings of the class -/
def matC (σ υ : rS) (bk : Nat × Nat → Bool) (E : List (Nat × Nat)) (K : Nat) : Prop := ∀ k e, k < K → E[k]? = some e → bk e = false → σ.2.2.1 19 k = nI (RN υ e.1 e.2 (wl υ e.1) (wl υ e.2)) ∧ (∀ i, i < wl υ e.1 → σ.2.2.1 22 (k * 12 + i) = oI (PN υ e.1 e.2 i)) ∧ ∀ j, j < wl υ e.2 → σ.2.2.1 23 (k * 12 + j) = oI (QN υ e.1 e.2 j)
theorem all_loop {υ : rS} (hv : VB υ) (hA : VA υ) {bk : Nat × Nat → Bool} {E : List (Nat × Nat)} (hE : isE υ bk E) (hl : E.length ≤ 42) (hm : ∀ e ∈ E, e.1 < wn υ ∧ e.2 < wn υ) : ∀ (r k fuel : Nat) (σ : rS), k + r = E.length → r < fuel → Kp oM υ σ → matC σ υ bk E k → ∃ τ, lX5_findAll_3 fuel (nI k) σ = some ((), τ) ∧ Kp oM υ τ ∧ matC τ υ bk E E.length := by
  have h16 := hv.2.1
  intro r
  induction r with
  | zero =>
    intro k fuel σ hk hfu hkp hM
    obtain ⟨fu, rfl⟩ : ∃ fu, fuel = fu + 1 := ⟨fuel - 1, by omega⟩
    obtain rfl : k = E.length := by omega
    refine ⟨σ, ?_, hkp, hM⟩
    have e : σ.1 10 4 = nI E.length := by rw [(hkp.1 10 (by omega)).1]; exact hE.1.1
    rw [lX5_findAll_3, e, if_pos ((kle (by omega) (by omega)).mpr (Nat.le_refl _))]
  | succ r ih =>
    intro k fuel σ hk hfu hkp hM
    obtain ⟨fu, rfl⟩ : ∃ fu, fuel = fu + 1 := ⟨fuel - 1, by omega⟩
    have e : σ.1 10 4 = nI E.length := by rw [(hkp.1 10 (by omega)).1]; exact hE.1.1
    obtain ⟨⟨a, b⟩, he⟩ : ∃ e, E[k]? = some e := ⟨_, List.getElem?_eq_getElem (by omega)⟩
    obtain ⟨ha, hb⟩ := hm (a, b) (List.mem_of_getElem? he)
    dsimp only at ha hb
    obtain ⟨x1, x2⟩ := hE.1.2 k (a, b) he
    have x3 := hE.2.2.1 k (a, b) he
    rw [← (hkp.1 11 (by omega)).2.2] at x1
    rw [← (hkp.1 12 (by omega)).2.2] at x2
    rw [← (hkp.1 13 (by omega)).2.2] at x3
    dsimp only at x1 x2
    rw [lX5_findAll_3, e, if_neg (by rw [kle (by omega) (by omega)]; omega), kinB (by omega), decide_eq_true (show k < 42 by omega)]
    unfold jX5_findAll_83
    simp only [if_true, kc (show k < 2147483648 by omega), x1, x2, x3, bI_0, vI_d, k1, kinB (show a < 2147483648 by omega), kinB (show b < 2147483648 by omega), decide_eq_true (show a < 16 by omega), decide_eq_true (show b < 16 by omega), kc (show a < 2147483648 by omega), kc (show b < 2147483648 by omega)]
    cases hbk : bk (a, b) with
    | true =>
      rw [if_neg (by simp)]
      refine ih (k + 1) fu σ (by omega) (by omega) hkp (fun k' e' h1 h2 h3 => ?_)
      by_cases c : k' = k
      · subst c
        rw [he] at h2
        rw [← Option.some.inj h2, hbk] at h3
        cases h3
      · exact hM k' e' (by omega) h2 h3
    | false =>
      rw [if_pos rfl]
      have el := wl_kp' hkp oM_oC
      have en := wn_kp' hkp oM_oC
      obtain ⟨τ1, w1, w2, w3⟩ := c_weigh (hkp.B oM_oC hv) (hkp.A oM_oC hA) (a := a) (b := b) (by rw [en]; exact ha) (by rw [en]; exact hb)
      have k1' : Kp oM υ τ1 := hkp.tr (w2.mono (fun n h => by omega))
      have tC : tabC τ1 υ a b := fun i' j' h1 h2 => by
        have := w3 i' j' (by rw [el]; exact h1) (by rw [el]; exact h2)
        rw [el, RN_kp hkp oM_oC] at this
        exact this
      have t00 : τ1.2.2.1 24 0 = nI (RN υ a b (wl υ a) (wl υ b)) := tC 0 0 (Nat.zero_le _) (Nat.zero_le _)
      obtain ⟨τ2, c1, c2, c3, c4⟩ := c_choose hv hA (σ := uA τ1 19 k (nI (RN υ a b (wl υ a) (wl υ b)))) ha hb (show k < 42 by omega) (k1'.tr (Kp.uA (by omega))) (fun i' j' h1 h2 => by rw [uA_ne (by omega)]; exact tC i' j' h1 h2)
      have z0 : inB 0 169 = true := rfl
      have z1 : (0 : Int32).toNatClampNeg = 0 := rfl
      rw [w1, Option.bind_some]
      simp only [z0, z1, if_true, vS_d, t00, c1, Option.bind_some]
      have kk : Kp oM υ τ2 := (k1'.tr (Kp.uA (by omega))).tr (c2.mono (fun n h => by omega))
      refine ih (k + 1) fu τ2 (by omega) (by omega) kk (fun k' e' h1 h2 h3 => ?_)
      by_cases c : k' = k
      · subst c
        rw [he] at h2
        obtain rfl := Option.some.inj h2
        refine ⟨?_, ?_, ?_⟩
        · rw [(c2.1 19 (by omega)).2.2, uA_eq]
        · intro i hi; exact c4.1 i hi
        · intro j hj; exact c4.2 j hj
      · obtain ⟨y1, y2, y3⟩ := hM k' e' (by omega) h2 h3
        have me := hm e' (List.mem_of_getElem? h2)
        have l1 := (l_ok hv me.1).2
        have l2 := (l_ok hv me.2).2
        refine ⟨?_, ?_, ?_⟩
        · rw [(c2.1 19 (by omega)).2.2, uA_nj (by omega), (w2.1 19 (by omega)).2.2]; exact y1
        · intro i hi
          rw [(c3 _ (by omega)).1, uA_ne (by omega), (w2.1 22 (by omega)).2.2]; exact y2 i hi
        · intro j hj
          rw [(c3 _ (by omega)).2, uA_ne (by omega), (w2.1 23 (by omega)).2.2]; exact y3 j hj
theorem c_all {υ : rS} (hv : VB υ) (hA : VA υ) {bk : Nat × Nat → Bool} {E : List (Nat × Nat)} (hE : isE υ bk E) (hl : E.length ≤ 42) (hm : ∀ e ∈ E, e.1 < wn υ ∧ e.2 < wn υ) : ∃ τ, fX5_findAll υ = some ((), τ) ∧ Kp oM υ τ ∧ matC τ υ bk E E.length := by
  obtain ⟨τ, t1, t2⟩ := all_loop hv hA hE hl hm E.length 0 1000 υ (by omega) (by omega) (Kp.rf _ _) (fun k e h => by omega)
  exact ⟨τ, t1, t2⟩
