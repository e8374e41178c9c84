/-! THE CLASS'S MATCHINGS. -/
section KpC
variable {υ σ : rS}
theorem Kp.B {O : Nat → Prop} (h : Kp O υ σ) (hO : ∀ n, O n → oC n) (hv : VB υ) : VB σ := VB.kp (fun n hn => h.1 n (fun z => by have := hO n z; omega)) hv
theorem Kp.A {O : Nat → Prop} (h : Kp O υ σ) (hO : ∀ n, O n → oC n) (hv : VA υ) : VA σ := VA.kp (h.1 41 (fun z => by have := hO _ z; omega)) hv
theorem hN_kp {O : Nat → Prop} (h : Kp O υ σ) (hO : ∀ n, O n → oC n) : hN σ = hN υ := funext fun a => funext fun i => by unfold hN; rw [wh_kp (h.1 _ (fun z => by have := hO _ z; omega))]
theorem kN_kp {O : Nat → Prop} (h : Kp O υ σ) (hO : ∀ n, O n → oC n) : kN σ = kN υ := funext fun a => funext fun i => by unfold kN; rw [wk_kp (h.1 _ (fun z => by have := hO _ z; omega))]
theorem aN_kp {O : Nat → Prop} (h : Kp O υ σ) (hO : ∀ n, O n → oC n) : aN σ = aN υ := funext fun a => by unfold aN; rw [(h.1 41 (fun z => by have := hO _ z; omega)).2.2]
theorem wl_kp' {O : Nat → Prop} (h : Kp O υ σ) (hO : ∀ n, O n → oC n) : wl σ = wl υ := funext fun a => wl_kp (h.1 _ (fun z => by have := hO _ z; omega))
theorem wn_kp' {O : Nat → Prop} (h : Kp O υ σ) (hO : ∀ n, O n → oC n) : wn σ = wn υ := wn_kp (h.1 1 (fun z => by have := hO _ z; omega))
theorem csN_kp {O : Nat → Prop} (h : Kp O υ σ) (hO : ∀ n, O n → oC n) : csN σ = csN υ := funext fun a => funext fun b => funext fun i => funext fun j => by unfold csN; rw [hN_kp h hO, kN_kp h hO, aN_kp h hO]
theorem RN_kp {O : Nat → Prop} (h : Kp O υ σ) (hO : ∀ n, O n → oC n) (a b : Nat) : ∀ r s, RN σ a b r s = RN υ a b r s
  | 0, 0 => (by rw [RN, RN])
  | 0, s + 1 => by rw [RN, RN, RN_kp h hO a b 0 s, hN_kp h hO, wl_kp' h hO]
  | r + 1, 0 => by rw [RN, RN, RN_kp h hO a b r 0, hN_kp h hO, wl_kp' h hO]
  | r + 1, s + 1 => by rw [RN, RN, RN_kp h hO a b r s, RN_kp h hO a b (r + 1) s, RN_kp h hO a b r (s + 1), hN_kp h hO, wl_kp' h hO, csN_kp h hO]
end KpC
theorem weigh_in {υ : rS} (hv : VB υ) (hA : VA υ) {a b i : Nat} (ha : a < wn υ) (hb : b < wn υ) (hi : i ≤ wl υ a) {k6 : Nat → Nat → Int32 → rS → Option (Unit × rS)} : ∀ (k fuel : Nat) (σ : rS), k ≤ wl υ b + 1 → k < fuel → Kp (fun n => n = 24) υ σ → tab σ 24 υ a b i k → ∃ τ, lX5_weigh_17 k6 fuel (80 + 4 * a) (80 + 4 * b) (nI i) (pI k) σ = k6 (80 + 4 * a) (80 + 4 * b) (pI i) τ ∧ Kp (fun n => n = 24) υ τ ∧ tab τ 24 υ a b i 0 := by
  have h16 := hv.2.1
  have la := (l_ok hv ha).2
  have lb := (l_ok hv hb).2
  intro k
  induction k with
  | zero =>
    intro fuel σ hk hfu hkp ht
    obtain ⟨fu, rfl⟩ : ∃ fu, fuel = fu + 1 := ⟨fuel - 1, by omega⟩
    refine ⟨σ, ?_, hkp, ht⟩
    rw [lX5_weigh_17, if_pos (by decide), vI_d, pI_d]
  | succ k ih =>
    intro fuel σ hk hfu hkp ht
    obtain ⟨fu, rfl⟩ : ∃ fu, fuel = fu + 1 := ⟨fuel - 1, by omega⟩
    have hO : ∀ n, (fun n => n = 24) n → oC n := fun n h => by have h : n = 24 := h; omega
    have hvσ := hkp.B hO hv
    have hAσ := hkp.A hO hA
    have el := wl_kp' hkp hO
    have en := wn_kp' hkp hO
    have ht' : tab σ 24 σ a b i (k + 1) := by
      intro i' j' h1 h2 h3
      rw [el] at h1 h2 ⊢
      rw [RN_kp hkp hO]
      exact ht i' j' h1 h2 h3
    have cl := c_least hvσ hAσ (a := a) (b := b) (i := i) (j := k) (by rw [en]; exact ha) (by rw [en]; exact hb) (by rw [el]; exact hi) (by rw [el]; omega) ht'
    rw [el, RN_kp hkp hO] at cl
    obtain ⟨τ, t1, t2, t3⟩ := ih fu (uA σ 24 (i * 13 + k) (nI (RN υ a b (wl υ a - i) (wl υ b - k)))) (by omega) (by omega) (hkp.tr (Kp.uA (O := fun n => n = 24) rfl)) (fun i' j' h1 h2 h3 => by
      by_cases c : i' = i ∧ j' = k
      · rw [c.1, c.2]
        exact uA_eq _ _ _ _
      · rw [uA_nj (by omega)]
        exact ht i' j' h1 h2 (by omega))
    refine ⟨τ, ?_, t2, t3⟩
    have e2 : nI i * 13 + nI k = nI (i * 13 + k) := by
      show nI i * nI 13 + nI k = _
      rw [kmul, kadd]
    have ng : ¬ nI k < 0 := by
      have := pI_neg (k := k + 1) (by omega)
      show ¬ pI (k + 1) < 0
      rw [this]
      omega
    rw [← t1, lX5_weigh_17]
    show (if nI k < 0 then _ else _) = _
    rw [if_neg ng]
    show ((fX5_leastFrom (80 + 4 * a) (nI i) (80 + 4 * b) (nI k) σ).bind _) = _
    rw [cl, Option.bind_some]
    show (if inB (nI i * 13 + nI k) 169 then vS (uA σ 24 (nI i * 13 + nI k).toNatClampNeg _) (fun σ10 => vI (nI k + (-1)) _) else none) = _
    rw [e2, kinB (by omega), decide_eq_true (show i * 13 + k < 169 by omega), if_pos rfl, kc (by omega), vS_d, pI_d, vI_d]
theorem weigh_out {υ : rS} (hv : VB υ) (hA : VA υ) {a b : Nat} (ha : a < wn υ) (hb : b < wn υ) : ∀ (k fuel : Nat) (σ : rS), k ≤ wl υ a + 1 → k < fuel → Kp (fun n => n = 24) υ σ → (∀ i' j', i' ≤ wl υ a → j' ≤ wl υ b → k ≤ i' → σ.2.2.1 24 (i' * 13 + j') = nI (RN υ a b (wl υ a - i') (wl υ b - j'))) → ∃ τ, lX5_weigh_6 fuel (80 + 4 * a) (80 + 4 * b) (pI k) σ = some ((), τ) ∧ Kp (fun n => n = 24) υ τ ∧ ∀ i' j', i' ≤ wl υ a → j' ≤ wl υ b → τ.2.2.1 24 (i' * 13 + j') = nI (RN υ a b (wl υ a - i') (wl υ b - j')) := by
  have h16 := hv.2.1
  have la := (l_ok hv ha).2
  obtain ⟨lb1, lb⟩ := l_ok hv hb
  intro k
  induction k with
  | zero =>
    intro fuel σ hk hfu hkp ht
    obtain ⟨fu, rfl⟩ : ∃ fu, fuel = fu + 1 := ⟨fuel - 1, by omega⟩
    refine ⟨σ, ?_, hkp, fun i' j' h1 h2 => ht i' j' h1 h2 (by omega)⟩
    rw [lX5_weigh_6, if_pos (by decide)]
  | succ k ih =>
    intro fuel σ hk hfu hkp ht
    obtain ⟨fu, rfl⟩ : ∃ fu, fuel = fu + 1 := ⟨fuel - 1, by omega⟩
    obtain ⟨τ, t1, t2, t3⟩ := weigh_in hv hA ha hb (i := k) (by omega) (k6 := lX5_weigh_6 fu) (wl υ b + 1) 1000 σ (by omega) (by omega) hkp (fun i' j' h1 h2 h3 => ht i' j' h1 h2 (by omega))
    obtain ⟨τ2, u1, u2, u3⟩ := ih fu τ (by omega) (by omega) t2 (fun i' j' h1 h2 h3 => t3 i' j' h1 h2 (by omega))
    refine ⟨τ2, ?_, u2, u3⟩
    have ng : ¬ nI k < 0 := by
      have := pI_neg (k := k + 1) (by omega)
      show ¬ pI (k + 1) < 0
      rw [this]
      omega
    have lb2 : σ.1 (80 + 4 * b) 4 = nI (wl υ b) := by rw [(hkp.1 _ (by omega)).1]; exact lb1
    rw [← u1, ← t1, lX5_weigh_6]
    show (if nI k < 0 then _ else _) = _
    rw [if_neg ng, if_pos (bo_ok (by omega)), lb2, vI_d]
    rfl
theorem c_weigh {υ : rS} (hv : VB υ) (hA : VA υ) {a b : Nat} (ha : a < wn υ) (hb : b < wn υ) : ∃ τ, fX5_weigh (80 + 4 * a) (80 + 4 * b) υ = some ((), τ) ∧ Kp (fun n => n = 24) υ τ ∧ ∀ i' j', i' ≤ wl υ a → j' ≤ wl υ b → τ.2.2.1 24 (i' * 13 + j') = nI (RN υ a b (wl υ a - i') (wl υ b - j')) := by
  have h16 := hv.2.1
  obtain ⟨la1, la⟩ := l_ok hv ha
  obtain ⟨τ, t1, t2⟩ := weigh_out hv hA ha hb (wl υ a + 1) 1000 υ (by omega) (by omega) (Kp.rf _ _) (fun i' j' h1 h2 h3 => by omega)
  refine ⟨τ, ?_, t2⟩
  unfold fX5_weigh
  rw [if_pos (bo_ok (by omega)), la1, vI_d]
  exact t1
/-- the uppermost partner with the least sum -/
def bpS (τ : rS) (a b i free : Nat) : Nat → Nat → Nat → Option Nat
  | 0, _, _ => none
  | s + 1, j, e => if e + csN τ a b i j + RN τ a b (wl τ a - (i + 1)) (wl τ b - (j + 1)) = RN τ a b (wl τ a - i) (wl τ b - free) then some j else bpS τ a b i free s (j + 1) (e + hN τ b j)
def frN (τ : rS) (a b : Nat) : Nat → Nat
  | 0 => 0
  | i + 1 => match bpS τ a b i (frN τ a b i) (wl τ b - frN τ a b i) (frN τ a b i) 0 with | some j => j + 1 | none => frN τ a b i
def PN (τ : rS) (a b i : Nat) : Option Nat := bpS τ a b i (frN τ a b i) (wl τ b - frN τ a b i) (frN τ a b i) 0
theorem bpS_lt {τ : rS} {a b i free m : Nat} : ∀ {s j e : Nat}, bpS τ a b i free s j e = some m → j ≤ m ∧ m < j + s
  | 0, j, e, h => (by cases h)
  | s + 1, j, e, h => by
    rw [bpS] at h
    split at h
    · obtain rfl := Option.some.inj h
      omega
    · have := bpS_lt h
      omega
theorem frN_s (τ : rS) (a b i : Nat) : frN τ a b (i + 1) = match PN τ a b i with | some j => j + 1 | none => frN τ a b i := rfl
theorem PN_lt {τ : rS} {a b i m : Nat} (h : PN τ a b i = some m) : frN τ a b i ≤ m ∧ m < wl τ b := by
  have := bpS_lt h
  omega
theorem frN_le (τ : rS) (a b : Nat) : ∀ i, frN τ a b i ≤ wl τ b
  | 0 => Nat.zero_le _
  | i + 1 => by
    rw [frN_s]
    have := frN_le τ a b i
    cases h : PN τ a b i with
    | none => exact this
    | some j =>
      have := PN_lt h
      show j + 1 ≤ _
      omega
theorem frN_mo (τ : rS) (a b i : Nat) : ∀ k, frN τ a b i ≤ frN τ a b (i + k)
  | 0 => Nat.le_refl _
  | k + 1 => by
    have := frN_mo τ a b i k
    show _ ≤ frN τ a b (i + k + 1)
    rw [frN_s]
    cases h : PN τ a b (i + k) with
    | none => exact this
    | some j =>
      have := PN_lt h
      show _ ≤ j + 1
      omega
/-- pairs do not cross -/
theorem PN_inc {τ : rS} {a b i k x y : Nat} (hik : i < k) (hx : PN τ a b i = some x) (hy : PN τ a b k = some y) : x < y := by
  have h1 := frN_mo τ a b (i + 1) (k - (i + 1))
  rw [Nat.add_sub_cancel' (by omega), frN_s, hx] at h1
  have h1 : x + 1 ≤ frN τ a b k := h1
  have := PN_lt hy
  omega
theorem best_loop {τ : rS} (hv : VB τ) (hA : VA τ) {a b i free : Nat} (ha : a < wn τ) (hb : b < wn τ) (hi : i < wl τ a) (hf : free ≤ wl τ b) (ht : ∀ i' j', i' ≤ wl τ a → j' ≤ wl τ b → τ.2.2.1 24 (i' * 13 + j') = nI (RN τ a b (wl τ a - i') (wl τ b - j'))) : ∀ (s j fuel e : Nat), j + s = wl τ b → s < fuel → e ≤ 10000 * j → lX5_bestPartner_7 fuel (80 + 4 * a) (nI i) (80 + 4 * b) (nI free) (nI e) (nI j) τ = some (oI (bpS τ a b i free s j e), τ) := by
  have h16 := hv.2.1
  obtain ⟨la1, la⟩ := l_ok hv ha
  obtain ⟨lb1, lb⟩ := l_ok hv hb
  intro s
  induction s with
  | zero =>
    intro j fuel e hj hfu he
    obtain ⟨fu, rfl⟩ : ∃ fu, fuel = fu + 1 := ⟨fuel - 1, by omega⟩
    rw [lX5_bestPartner_7, if_pos (bo_ok (by omega)), lb1, if_pos ((kle (by omega) (by omega)).mpr (by omega))]
    rfl
  | succ s ih =>
    intro j fuel e hj hfu he
    obtain ⟨fu, rfl⟩ : ∃ fu, fuel = fu + 1 := ⟨fuel - 1, by omega⟩
    have e1 : nI (i + 1) * 13 + nI j + 1 = nI ((i + 1) * 13 + (j + 1)) := by
      show nI (i + 1) * nI 13 + nI j + 1 = _
      rw [kmul, kadd, k1]
      rfl
    have e2 : nI i * 13 + nI free = nI (i * 13 + free) := by
      show nI i * nI 13 + nI free = _
      rw [kmul, kadd]
    obtain ⟨y1, y2, y3⟩ := h_ok hv hb (show j < wl τ b by omega)
    unfold wh at y1
    have t1 := ht (i + 1) (j + 1) (by omega) (by omega)
    have t2 := ht i free (by omega) hf
    have cc := c_cost hv hA ha hb hi (show j < wl τ b by omega)
    have cl := cs_le hv hA ha hb hi (show j < wl τ b by omega)
    have b1 := RN_le hv hA ha hb (wl τ a - (i + 1)) (wl τ b - (j + 1)) (by omega) (by omega)
    have b2 := RN_le hv hA ha hb (wl τ a - i) (wl τ b - free) (by omega) (by omega)
    rw [lX5_bestPartner_7, if_pos (bo_ok (by omega)), lb1, if_neg (by rw [kle (by omega) (by omega)]; omega), bpS]
    simp only [e1, e2, kinB (show (i + 1) * 13 + (j + 1) < 2147483648 by omega), decide_eq_true (show (i + 1) * 13 + (j + 1) < 169 by omega), kc (show (i + 1) * 13 + (j + 1) < 2147483648 by omega), kinB (show i * 13 + free < 2147483648 by omega), decide_eq_true (show i * 13 + free < 169 by omega), kc (show i * 13 + free < 2147483648 by omega), if_true, vI_d, t1, t2, cc, Option.bind_some, if_pos (bo_ok (show b < 16 by omega)), if_pos (th_ok (show b < 16 by omega)), kinB (show j < 2147483648 by omega), decide_eq_true (show j < 12 by omega), kc (show j < 2147483648 by omega), y1, kadd, k1]
    have q : ∀ x y : Nat, x < 2147483648 → y < 2147483648 → (nI x = nI y) = (x = y) := fun x y hx hy => propext (keq hx hy)
    simp only [q _ _ (show e + csN τ a b i j + RN τ a b (wl τ a - (i + 1)) (wl τ b - (j + 1)) < 2147483648 by omega) (show RN τ a b (wl τ a - i) (wl τ b - free) < 2147483648 by omega)]
    by_cases c : e + csN τ a b i j + RN τ a b (wl τ a - (i + 1)) (wl τ b - (j + 1)) = RN τ a b (wl τ a - i) (wl τ b - free)
    · rw [if_pos c, if_pos c]
      rfl
    · rw [if_neg c, if_neg c]
      exact ih (j + 1) fu (e + hN τ b j) (by omega) (by omega) (by omega)
theorem c_best {τ : rS} (hv : VB τ) (hA : VA τ) {a b i : Nat} (ha : a < wn τ) (hb : b < wn τ) (hi : i < wl τ a) (ht : ∀ i' j', i' ≤ wl τ a → j' ≤ wl τ b → τ.2.2.1 24 (i' * 13 + j') = nI (RN τ a b (wl τ a - i') (wl τ b - j'))) : fX5_bestPartner (80 + 4 * a) (nI i) (80 + 4 * b) (nI (frN τ a b i)) τ = some (oI (PN τ a b i), τ) := by
  have lb := (l_ok hv hb).2
  have hf := frN_le τ a b i
  have := best_loop hv hA ha hb hi hf ht (wl τ b - frN τ a b i) (frN τ a b i) 1000 0 (by omega) (by omega) (by omega)
  unfold fX5_bestPartner PN
  exact this
section KpP
variable {υ σ : rS}
theorem bpS_kp {O : Nat → Prop} (h : Kp O υ σ) (hO : ∀ n, O n → oC n) (a b i free : Nat) : ∀ s j e, bpS σ a b i free s j e = bpS υ a b i free s j e
  | 0, j, e => rfl
  | s + 1, j, e => by rw [bpS, bpS, bpS_kp h hO a b i free s, RN_kp h hO, RN_kp h hO, hN_kp h hO, wl_kp' h hO, csN_kp h hO]
theorem frN_kp {O : Nat → Prop} (h : Kp O υ σ) (hO : ∀ n, O n → oC n) (a b : Nat) : ∀ i, frN σ a b i = frN υ a b i
  | 0 => rfl
  | i + 1 => by rw [frN, frN, frN_kp h hO a b i, bpS_kp h hO, wl_kp' h hO]
theorem PN_kp {O : Nat → Prop} (h : Kp O υ σ) (hO : ∀ n, O n → oC n) (a b i : Nat) : PN σ a b i = PN υ a b i := by unfold PN; rw [frN_kp h hO, bpS_kp h hO, wl_kp' h hO]
end KpP
/-- whose partner the layer j of b is -/
def QN (τ : rS) (a b j : Nat) : Option Nat := ff (fun i => decide (PN τ a b i = some j)) (wl τ a) 0
theorem QN_i {τ : rS} {a b i j : Nat} (hi : i < wl τ a) : QN τ a b j = some i ↔ PN τ a b i = some j := by
  unfold QN
  constructor
  · intro h
    exact of_decide_eq_true (ff_some h).2.2.1
  · intro h
    cases hq : ff (fun i => decide (PN τ a b i = some j)) (wl τ a) 0 with
    | none =>
      have := ff_none.mp hq i (by omega) (by omega)
      rw [decide_eq_true h] at this
      cases this
    | some k =>
      obtain ⟨_, _, z, _⟩ := ff_some hq
      have z := of_decide_eq_true z
      congr 1
      rcases Nat.lt_trichotomy i k with c | c | c
      · have := PN_inc c h z; omega
      · exact c.symm
      · have := PN_inc c z h; omega
