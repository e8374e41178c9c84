/-! THE MODEL'S MATCHINGS, LOOPS. -/
abbrev oQ (n : Nat) : Prop := n = 57 ∨ n = 58 ∨ n = 62
section MM2
variable {τ : rS} {a b : Nat}
theorem MB.q {υ σ : rS} {O : Nat → Prop} (h : Kp O υ σ) (hO : ∀ n, O n → ¬ (43 ≤ n ∧ n ≤ 52)) (hM : MB τ υ) : MB τ σ := hM.mo ((h.1 43 (fun z => hO _ z (by omega))).1 _) (fun n h1 h2 k => (h.1 n (fun z => hO _ z (by omega))).2.2 k)
theorem MA.q {υ σ : rS} {O : Nat → Prop} (h : Kp O υ σ) (hO : ∀ n, O n → ¬ (43 ≤ n ∧ n ≤ 52)) (hM : MA τ υ) : MA τ σ := hM.mo (fun k => (h.1 50 (fun z => hO _ z (by omega))).2.2 k)
theorem oQ_b : ∀ n, oQ n → ¬ (43 ≤ n ∧ n ≤ 52) := fun n h => by omega
theorem mw_in (hv : VB τ) (hA : VA τ) (ha : a < wn τ) (hb : b < wn τ) {i : Nat} (hi : i ≤ wl τ a) {k34 : Int32 → Int32 → Int32 → Int32 → Int32 → Int32 → rS → Option (Unit × rS)} (v1 : Int32) : ∀ (k fuel : Nat) (σ : rS), k ≤ wl τ b + 1 → k < fuel → MB τ σ → MA τ σ → tabM σ τ a b i k → ∃ ρ, lX12_matchEdge_43 k34 fuel v1 (nI a) (nI b) (nI (wl τ a)) (nI (wl τ b)) (nI i) (pI k) σ = k34 v1 (nI a) (nI b) (nI (wl τ a)) (nI (wl τ b)) (pI i) ρ ∧ Kp (fun n => n = 62) σ ρ ∧ tabM ρ τ a b i 0 := by
  have la := (l_ok hv ha).2
  have lb := (l_ok hv hb).2
  intro k
  induction k with
  | zero =>
    intro fuel σ hk hfu hM hMA ht
    obtain ⟨fu, rfl⟩ : ∃ fu, fuel = fu + 1 := ⟨fuel - 1, by omega⟩
    refine ⟨σ, ?_, Kp.rf _ _, ht⟩
    rw [lX12_matchEdge_43, if_pos (by decide), vI_d, pI_d]
  | succ k ih =>
    intro fuel σ hk hfu hM hMA ht
    obtain ⟨fu, rfl⟩ : ∃ fu, fuel = fu + 1 := ⟨fuel - 1, by omega⟩
    have kk : Kp (fun n => n = 62) σ (uA σ 62 (13 * i + k) (nI (RN τ a b (wl τ a - i) (wl τ b - k)))) := Kp.uA (O := fun n => n = 62) rfl
    have hO : ∀ n, (fun n => n = 62) n → ¬ (43 ≤ n ∧ n ≤ 52) := fun n h => by have h : n = 62 := h; omega
    obtain ⟨ρ, t1, t2, t3⟩ := ih fu (uA σ 62 (13 * i + k) (nI (RN τ a b (wl τ a - i) (wl τ b - k)))) (by omega) (by omega) (hM.q kk hO) (hMA.q kk hO) (fun i' j' h1 h2 h3 => by
      by_cases c : i' = i ∧ j' = k
      · rw [c.1, c.2]
        exact uA_eq _ _ _ _
      · rw [uA_nj (by omega)]
        exact ht i' j' h1 h2 (by omega))
    refine ⟨ρ, ?_, kk.tr t2, t3⟩
    have ng : ¬ nI k < 0 := by
      have := pI_neg (k := k + 1) (by omega)
      show ¬ pI (k + 1) < 0
      rw [this]
      omega
    rw [← t1, lX12_matchEdge_43]
    show (if nI k < 0 then _ else _) = _
    rw [if_neg ng]
    exact m_cell hv hA hM hMA ha hb hi (by omega) ht k34 (lX12_matchEdge_43 k34 fu) v1
def tabN (σ τ : rS) (a b : Nat) : Prop := ∀ i' j', i' ≤ wl τ a → j' ≤ wl τ b → σ.2.2.1 62 (13 * i' + j') = nI (RN τ a b (wl τ a - i') (wl τ b - j'))
theorem mw_out (hv : VB τ) (hA : VA τ) (ha : a < wn τ) (hb : b < wn τ) {K : Nat} (hK : K < 120) : ∀ (k fuel : Nat) (σ : rS), k ≤ wl τ a + 1 → k < fuel → MB τ σ → MA τ σ → (∀ i' j', i' ≤ wl τ a → j' ≤ wl τ b → k ≤ i' → σ.2.2.1 62 (13 * i' + j') = nI (RN τ a b (wl τ a - i') (wl τ b - j'))) → ∃ ρ, lX12_matchEdge_34 fuel (nI K) (nI a) (nI b) (nI (wl τ a)) (nI (wl τ b)) (pI k) σ = lX12_matchEdge_265 1000 (nI K) (nI a) (nI b) (nI (wl τ a)) (nI (wl τ b)) 0 0 (uA ρ 58 K (nI (RN τ a b (wl τ a) (wl τ b)))) ∧ Kp (fun n => n = 62) σ ρ ∧ tabN ρ τ a b := by
  have la := (l_ok hv ha).2
  have lb := (l_ok hv hb).2
  intro k
  induction k with
  | zero =>
    intro fuel σ hk hfu hM hMA ht
    obtain ⟨fu, rfl⟩ : ∃ fu, fuel = fu + 1 := ⟨fuel - 1, by omega⟩
    have tN : tabN σ τ a b := fun i' j' h1 h2 => ht i' j' h1 h2 (by omega)
    refine ⟨σ, ?_, Kp.rf _ _, tN⟩
    have t00 := tN 0 0 (Nat.zero_le _) (Nat.zero_le _)
    have t00 : σ.2.2.1 62 0 = nI (RN τ a b (wl τ a) (wl τ b)) := t00
    rw [lX12_matchEdge_34, if_pos (by decide)]
    unfold fX12_at
    have z : (13 : Int32) * 0 + 0 = 0 := rfl
    have z0 : inB 0 169 = true := rfl
    have z1 : (0 : Int32).toNatClampNeg = 0 := rfl
    rw [z, Option.bind_some]
    simp only [z0, z1, if_true, kinB (show K < 2147483648 by omega), decide_eq_true hK, vS_d, kc (show K < 2147483648 by omega), t00]
  | succ k ih =>
    intro fuel σ hk hfu hM hMA ht
    obtain ⟨fu, rfl⟩ : ∃ fu, fuel = fu + 1 := ⟨fuel - 1, by omega⟩
    obtain ⟨ρ, t1, t2, t3⟩ := mw_in hv hA ha hb (i := k) (by omega) (k34 := lX12_matchEdge_34 fu) (nI K) (wl τ b + 1) 1000 σ (by omega) (by omega) hM hMA (fun i' j' h1 h2 h3 => ht i' j' h1 h2 (by omega))
    have hO : ∀ n, (fun n => n = 62) n → ¬ (43 ≤ n ∧ n ≤ 52) := fun n h => by have h : n = 62 := h; omega
    obtain ⟨ρ2, u1, u2, u3⟩ := ih fu ρ (by omega) (by omega) (hM.q t2 hO) (hMA.q t2 hO) (fun i' j' h1 h2 h3 => t3 i' j' h1 h2 (by omega))
    refine ⟨ρ2, ?_, t2.tr u2, u3⟩
    have ng : ¬ nI k < 0 := by
      have := pI_neg (k := k + 1) (by omega)
      show ¬ pI (k + 1) < 0
      rw [this]
      omega
    rw [← u1, ← t1, lX12_matchEdge_34]
    show (if nI k < 0 then _ else _) = _
    rw [if_neg ng]
    rfl
theorem mbest (hv : VB τ) (hA : VA τ) (ha : a < wn τ) (hb : b < wn τ) {i free K : Nat} (hi : i < wl τ a) (hf : free ≤ wl τ b) {σ : rS} (hM : MB τ σ) (hMA : MA τ σ) (ht : tabN σ τ a b) {k265 : Int32 → Int32 → Int32 → Int32 → Int32 → Int32 → Int32 → rS → Option (Unit × rS)} : ∀ (s j fuel e : Nat), j + s = wl τ b → s + 1 < fuel → e ≤ 10000 * j → lX12_matchEdge_282 k265 fuel (nI K) (nI a) (nI b) (nI (wl τ a)) (nI (wl τ b)) (nI free) (nI i) (-1) (nI e) (nI j) σ = jX12_matchEdge_371 k265 (nI K) (nI a) (nI b) (nI (wl τ a)) (nI (wl τ b)) (nI free) (nI i) (oI (bpS τ a b i free s j e)) σ := by
  have h16 := hv.2.1
  have la := (l_ok hv ha).2
  have lb := (l_ok hv hb).2
  intro s
  induction s with
  | zero =>
    intro j fuel e hj hfu he
    obtain ⟨fu, rfl⟩ : ∃ fu, fuel = fu + 1 := ⟨fuel - 1, by omega⟩
    rw [lX12_matchEdge_282, if_pos ((kle (by omega) (by omega)).mpr (by omega))]
    rfl
  | succ s ih =>
    intro j fuel e hj hfu he
    obtain ⟨fu, rfl⟩ : ∃ fu, fuel = fu + 1 + 1 := ⟨fuel - 2, by omega⟩
    have e3 : ∀ x y : Nat, (13 : Int32) * nI x + nI y = nI (13 * x + y) := fun x y => by
      show nI 13 * nI x + nI y = _
      rw [kmul, kadd]
    have e1 : ∀ x y : Nat, (12 : Int32) * nI x + nI y = nI (12 * x + y) := fun x y => by
      show nI 12 * nI x + nI y = _
      rw [kmul, kadd]
    have t1 := ht (i + 1) (j + 1) (by omega) (by omega)
    have t2 := ht i free (by omega) hf
    have cc := m_cost hv hA hM hMA ha hb hi (show j < wl τ b by omega)
    have cl := cs_le hv hA ha hb hi (show j < wl τ b by omega)
    have yh := (mh hv hM hb (show j < wl τ b by omega)).1
    have yb := (h_ok hv hb (show j < wl τ b by omega)).2
    have b1 := RN_le hv hA ha hb (wl τ a - (i + 1)) (wl τ b - (j + 1)) (by omega) (by omega)
    have b2 := RN_le hv hA ha hb (wl τ a - i) (wl τ b - free) (by omega) (by omega)
    rw [lX12_matchEdge_282, if_neg (by rw [kle (by omega) (by omega)]; omega), if_pos rfl, bpS]
    unfold fX12_at jX12_matchEdge_346
    simp only [e1, e3, k1, cc, Option.bind_some, kinB (show 13 * (i + 1) + (j + 1) < 2147483648 by omega), decide_eq_true (show 13 * (i + 1) + (j + 1) < 169 by omega), kc (show 13 * (i + 1) + (j + 1) < 2147483648 by omega), kinB (show 13 * i + free < 2147483648 by omega), decide_eq_true (show 13 * i + free < 169 by omega), kc (show 13 * i + free < 2147483648 by omega), if_true, t1, t2, kadd, kinB (show 12 * b + j < 2147483648 by omega), decide_eq_true (show 12 * b + j < 192 by omega), kc (show 12 * b + j < 2147483648 by omega), yh, vI_d]
    have q : ∀ x y : Nat, x < 2147483648 → y < 2147483648 → (nI x = nI y) = (x = y) := fun x y hx hy => propext (keq hx hy)
    simp only [q _ _ (show e + csN τ a b i j + RN τ a b (wl τ a - (i + 1)) (wl τ b - (j + 1)) < 2147483648 by omega) (show RN τ a b (wl τ a - i) (wl τ b - free) < 2147483648 by omega)]
    by_cases c : e + csN τ a b i j + RN τ a b (wl τ a - (i + 1)) (wl τ b - (j + 1)) = RN τ a b (wl τ a - i) (wl τ b - free)
    · rw [if_pos c, if_pos c, lX12_matchEdge_282]
      by_cases d : nI (wl τ b) ≤ nI (j + 1)
      · rw [if_pos d]
        rfl
      · rw [if_neg d, if_neg (kne1 (by omega))]
        rfl
    · rw [if_neg c, if_neg c]
      exact ih (j + 1) (fu + 1) (e + hN τ b j) (by omega) (by omega) (by omega)
def rowM (σ τ : rS) (a b k i : Nat) : Prop := ∀ i', i' < i → σ.2.2.1 57 (12 * k + i') = oI (PN τ a b i')
theorem mchoose (hv : VB τ) (hA : VA τ) (ha : a < wn τ) (hb : b < wn τ) {K : Nat} (hK : K < 120) : ∀ (r i fuel : Nat) (σ : rS), i + r = wl τ a → r < fuel → MB τ σ → MA τ σ → tabN σ τ a b → rowM σ τ a b K i → ∃ ρ, lX12_matchEdge_265 fuel (nI K) (nI a) (nI b) (nI (wl τ a)) (nI (wl τ b)) (nI (frN τ a b i)) (nI i) σ = some ((), ρ) ∧ Kp (fun n => n = 57) σ ρ ∧ (∀ x, (x < 12 * K ∨ 12 * K + 12 ≤ x) → ρ.2.2.1 57 x = σ.2.2.1 57 x) ∧ rowM ρ τ a b K (wl τ a) := by
  have la := (l_ok hv ha).2
  have lb := (l_ok hv hb).2
  intro r
  induction r with
  | zero =>
    intro i fuel σ hi hfu hM hMA ht hr
    obtain ⟨fu, rfl⟩ : ∃ fu, fuel = fu + 1 := ⟨fuel - 1, by omega⟩
    obtain rfl : i = wl τ a := by omega
    refine ⟨σ, ?_, Kp.rf _ _, fun _ _ => rfl, hr⟩
    rw [lX12_matchEdge_265, if_pos ((kle (by omega) (by omega)).mpr (Nat.le_refl _))]
  | succ r ih =>
    intro i fuel σ hi hfu hM hMA ht hr
    obtain ⟨fu, rfl⟩ : ∃ fu, fuel = fu + 1 := ⟨fuel - 1, by omega⟩
    have hf := frN_le τ a b i
    have mb := mbest hv hA ha hb (i := i) (free := frN τ a b i) (K := K) (by omega) hf hM hMA ht (k265 := lX12_matchEdge_265 fu) (wl τ b - frN τ a b i) (frN τ a b i) 1000 0 (by omega) (by omega) (by omega)
    have e1 : (12 : Int32) * nI K + nI i = nI (12 * K + i) := by
      show nI 12 * nI K + nI i = _
      rw [kmul, kadd]
    rw [show nI 0 = 0 from rfl] at mb
    rw [lX12_matchEdge_265, if_neg (by rw [kle (by omega) (by omega)]; omega), mb]
    show ∃ ρ, jX12_matchEdge_371 _ _ _ _ _ _ _ _ (oI (PN τ a b i)) σ = _ ∧ _
    unfold jX12_matchEdge_371 jX12_matchEdge_400
    simp only [e1, kinB (show 12 * K + i < 2147483648 by omega), decide_eq_true (show 12 * K + i < 1440 by omega), if_true, vS_d, vI_d, k1, kc (show 12 * K + i < 2147483648 by omega)]
    have hO : ∀ n, (fun n => n = 57) n → ¬ (43 ≤ n ∧ n ≤ 52) := fun n h => by have h : n = 57 := h; omega
    have kk : Kp (fun n => n = 57) σ (uA σ 57 (12 * K + i) (oI (PN τ a b i))) := Kp.uA (O := fun n => n = 57) rfl
    obtain ⟨ρ, t1, t2, t3, t4⟩ := ih (i + 1) fu (uA σ 57 (12 * K + i) (oI (PN τ a b i))) (by omega) (by omega) (hM.q kk hO) (hMA.q kk hO) (fun i' j' h1 h2 => by rw [uA_ne (by omega)]; exact ht i' j' h1 h2) (fun i' hi' => by
      by_cases c : i' = i
      · rw [c, uA_eq]
      · rw [uA_nj (by omega)]; exact hr i' (by omega))
    refine ⟨ρ, ?_, kk.tr t2, fun x hx => by rw [t3 x hx, uA_nj (by omega)], t4⟩
    rw [← t1, frN_s]
    cases hp : PN τ a b i with
    | none => rw [if_pos (show oI none = -1 from rfl)]
    | some j =>
      have := PN_lt hp
      have oj : oI (some j) = nI j := rfl
      rw [oj, if_neg (kne1 (by omega)), k1]
theorem m_match (hv : VB τ) (hA : VA τ) {σ : rS} (hM : MB τ σ) (hMA : MA τ σ) {E : List (Nat × Nat)} (hE : arrM σ E) {K : Nat} (hK : K < 42) (he : E[K]? = some (a, b)) (ha : a < wn τ) (hb : b < wn τ) : ∃ ρ, fX12_matchEdge (nI K) σ = some ((), ρ) ∧ Kp oQ σ ρ ∧ ρ.2.2.1 58 K = nI (RN τ a b (wl τ a) (wl τ b)) ∧ (∀ x, x ≠ K → ρ.2.2.1 58 x = σ.2.2.1 58 x) ∧ (∀ x, (x < 12 * K ∨ 12 * K + 12 ≤ x) → ρ.2.2.1 57 x = σ.2.2.1 57 x) ∧ rowM ρ τ a b K (wl τ a) := by
  have h16 := hv.2.1
  have la := (l_ok hv ha).2
  have lb := (l_ok hv hb).2
  obtain ⟨x1, x2⟩ := hE.2 K (a, b) he
  obtain ⟨_, _, _, y1, _⟩ := hM.2 a ha
  obtain ⟨_, _, _, y2, _⟩ := hM.2 b hb
  dsimp only at x1 x2
  obtain ⟨ρ, t1, t2, t3⟩ := mw_out hv hA ha hb (K := K) (by omega) (wl τ a + 1) 1000 σ (by omega) (by omega) hM hMA (fun i' j' h1 h2 h3 => by omega)
  have hO : ∀ n, oQ n → ¬ (43 ≤ n ∧ n ≤ 52) := oQ_b
  have k2 : Kp oQ σ (uA ρ 58 K (nI (RN τ a b (wl τ a) (wl τ b)))) := (t2.mono (fun n h => by omega)).tr (Kp.uA (by omega))
  obtain ⟨ρ2, u1, u2, u3, u4⟩ := mchoose hv hA ha hb (K := K) (by omega) (wl τ a) 0 1000 (uA ρ 58 K (nI (RN τ a b (wl τ a) (wl τ b)))) (by omega) (by omega) (hM.q k2 hO) (hMA.q k2 hO) (fun i' j' h1 h2 => by rw [uA_ne (by omega)]; exact t3 i' j' h1 h2) (fun i' h => by omega)
  refine ⟨ρ2, ?_, k2.tr (u2.mono (fun n h => by omega)), ?_, fun x hx => ?_, fun x hx => ?_, u4⟩
  · unfold fX12_matchEdge
    simp only [kinB (show K < 2147483648 by omega), decide_eq_true (show K < 120 by omega), if_true, kc (show K < 2147483648 by omega), vI_d, x1, x2, kinB (show a < 2147483648 by omega), kinB (show b < 2147483648 by omega), decide_eq_true (show a < 16 by omega), decide_eq_true (show b < 16 by omega), kc (show a < 2147483648 by omega), kc (show b < 2147483648 by omega), y1, y2]
    rw [← u1]
    exact t1
  · rw [(u2.1 58 (by omega)).2.2, uA_eq]
  · rw [(u2.1 58 (by omega)).2.2, uA_nj hx, (t2.1 58 (by omega)).2.2]
  · rw [u3 x hx, uA_ne (by omega), (t2.1 57 (by omega)).2.2]
def matM (σ τ : rS) (bk : Nat × Nat → Bool) (E : List (Nat × Nat)) (K : Nat) : Prop := ∀ k e, k < K → E[k]? = some e → bk e = false → σ.2.2.1 58 k = nI (RN τ e.1 e.2 (wl τ e.1) (wl τ e.2)) ∧ ∀ i, i < wl τ e.1 → σ.2.2.1 57 (12 * k + i) = oI (PN τ e.1 e.2 i)
theorem mrun_loop (hv : VB τ) (hA : VA τ) {bk : Nat × Nat → Bool} {E : List (Nat × Nat)} (hl : E.length ≤ 42) (hm : ∀ e ∈ E, e.1 < wn τ ∧ e.2 < wn τ) : ∀ (r k fuel : Nat) (σ : rS), k + r = E.length → r < fuel → MB τ σ → MA τ σ → isN σ bk E → matM σ τ bk E k → ∃ ρ fu, lX12_run_15 fuel (nI k) σ = lX12_run_15 (fu + 1) (nI E.length) ρ ∧ Kp oQ σ ρ ∧ matM ρ τ bk E E.length := by
  intro r
  induction r with
  | zero =>
    intro k fuel σ hk hfu hM hMA hE hN
    obtain ⟨fu, rfl⟩ : ∃ fu, fuel = fu + 1 := ⟨fuel - 1, by omega⟩
    obtain rfl : k = E.length := by omega
    exact ⟨σ, fu, rfl, Kp.rf _ _, hN⟩
  | succ r ih =>
    intro k fuel σ hk hfu hM hMA hE hN
    obtain ⟨fu, rfl⟩ : ∃ fu, fuel = fu + 1 := ⟨fuel - 1, by omega⟩
    obtain ⟨⟨a, b⟩, he⟩ : ∃ e, E[k]? = some e := ⟨_, List.getElem?_eq_getElem (by omega)⟩
    obtain ⟨ha, hb⟩ := hm (a, b) (List.mem_of_getElem? he)
    dsimp only at ha hb
    have x3 := hE.2.1 k (a, b) he
    rw [lX12_run_15, hE.1.1, if_neg (by rw [kle (by omega) (by omega)]; omega), kinB (by omega), decide_eq_true (show k < 120 by omega)]
    unfold jX12_run_37
    simp only [if_true, kc (show k < 2147483648 by omega), x3, bI_0, vI_d, k1]
    cases hbk : bk (a, b) with
    | true =>
      rw [if_neg (by simp)]
      refine ih (k + 1) fu σ (by omega) (by omega) hM hMA hE (fun k' e' h1 h2 h3 => ?_)
      by_cases c : k' = k
      · subst c
        rw [he] at h2
        rw [← Option.some.inj h2, hbk] at h3
        cases h3
      · exact hN k' e' (by omega) h2 h3
    | false =>
      rw [if_pos rfl]
      obtain ⟨ρ, t1, t2, t3, t4, t5, t6⟩ := m_match hv hA hM hMA hE.1 (K := k) (by omega) he ha hb
      obtain ⟨ρ2, fu2, u1, u2, u3⟩ := ih (k + 1) fu ρ (by omega) (by omega) (hM.q t2 oQ_b) (hMA.q t2 oQ_b) (hE.mo ((t2.1 43 (by omega)).1 _) (fun n h1 h2 j => (t2.1 n (by omega)).2.2 j)) (fun k' e' h1 h2 h3 => by
        by_cases c : k' = k
        · subst c
          rw [he] at h2
          obtain rfl := Option.some.inj h2
          exact ⟨t3, t6⟩
        · obtain ⟨y1, y2⟩ := hN k' e' (by omega) h2 h3
          have l1 := (l_ok hv (hm e' (List.mem_of_getElem? h2)).1).2
          exact ⟨by rw [t4 k' c]; exact y1, fun i hi => by rw [t5 _ (by omega)]; exact y2 i hi⟩)
      refine ⟨ρ2, fu2, ?_, t2.tr u2, u3⟩
      rw [t1, Option.bind_some]
      exact u1
end MM2
