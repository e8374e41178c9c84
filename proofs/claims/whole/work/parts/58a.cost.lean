/-! MATCHINGS: what they are, over whole numbers. -/
abbrev oC (n : Nat) : Prop := 10 ≤ n ∧ n ≤ 37
def hN (τ : rS) (a i : Nat) : Nat := (wh τ a i).toNatClampNeg
def kN (τ : rS) (a i : Nat) : Nat := (wk τ a i).toNatClampNeg
def aN (τ : rS) (k : Nat) : Nat := (τ.2.2.1 41 k).toNatClampNeg
def csN (τ : rS) (a b i j : Nat) : Nat := (hN τ a i - hN τ b j) + (hN τ b j - hN τ a i) + (if kN τ a i = kN τ b j then 0 else 100 + 50 * ((aN τ (kN τ a i) - aN τ (kN τ b j)) + (aN τ (kN τ b j) - aN τ (kN τ a i))))
def RN (τ : rS) (a b : Nat) : Nat → Nat → Nat
  | 0, 0 => 0
  | 0, s + 1 => hN τ b (wl τ b - (s + 1)) + RN τ a b 0 s
  | r + 1, 0 => hN τ a (wl τ a - (r + 1)) + RN τ a b r 0
  | r + 1, s + 1 => min (min (hN τ a (wl τ a - (r + 1)) + RN τ a b r (s + 1)) (hN τ b (wl τ b - (s + 1)) + RN τ a b (r + 1) s)) (csN τ a b (wl τ a - (r + 1)) (wl τ b - (s + 1)) + RN τ a b r s)
theorem h_ok {τ : rS} (hv : VB τ) {a i : Nat} (ha : a < wn τ) (hi : i < wl τ a) : wh τ a i = nI (hN τ a i) ∧ 1 ≤ hN τ a i ∧ hN τ a i ≤ 10000 := by
  obtain ⟨_, _, _, _, _, h⟩ := hv.2.2.2.1 a ha
  obtain ⟨_, z⟩ := h i hi
  obtain ⟨z1, z2⟩ := z
  have e := i_cl (a := wh τ a i) (by omega)
  refine ⟨i_nI (by omega), ?_, ?_⟩ <;> unfold hN <;> omega
theorem k_ok {τ : rS} (hv : VB τ) {a i : Nat} (ha : a < wn τ) (hi : i < wl τ a) : wk τ a i = nI (kN τ a i) ∧ kN τ a i < 8 := by
  obtain ⟨_, _, _, _, _, h⟩ := hv.2.2.2.1 a ha
  obtain ⟨z, _⟩ := h i hi
  obtain ⟨z1, z2⟩ := z
  have e := i_cl (a := wk τ a i) (by omega)
  refine ⟨i_nI (by omega), ?_⟩
  unfold kN
  omega
theorem a_ok {τ : rS} (hv : VA τ) {k : Nat} (hk : k < 8) : τ.2.2.1 41 k = nI (aN τ k) ∧ aN τ k ≤ 99 := by
  obtain ⟨z1, z2⟩ := hv k hk
  have e := i_cl (a := τ.2.2.1 41 k) (by omega)
  refine ⟨i_nI (by omega), ?_⟩
  unfold aN
  omega
theorem l_ok {τ : rS} (hv : VB τ) {a : Nat} (ha : a < wn τ) : τ.1 (80 + 4 * a) 4 = nI (wl τ a) ∧ wl τ a ≤ 12 := by
  obtain ⟨_, _, _, h, h2, _⟩ := hv.2.2.2.1 a ha
  exact ⟨h, h2⟩
theorem cs_le {τ : rS} (hv : VB τ) (hA : VA τ) {a b i j : Nat} (ha : a < wn τ) (hb : b < wn τ) (hi : i < wl τ a) (hj : j < wl τ b) : csN τ a b i j ≤ 20000 := by
  have h1 := (h_ok hv ha hi).2
  have h2 := (h_ok hv hb hj).2
  have h3 := (a_ok hA (k_ok hv ha hi).2).2
  have h4 := (a_ok hA (k_ok hv hb hj).2).2
  unfold csN
  split <;> omega
theorem RN_le {τ : rS} (hv : VB τ) (hA : VA τ) {a b : Nat} (ha : a < wn τ) (hb : b < wn τ) : ∀ r s, r ≤ wl τ a → s ≤ wl τ b → RN τ a b r s ≤ 10000 * (r + s)
  | 0, 0, _, _ => (by rw [RN]; omega)
  | 0, s + 1, h1, h2 => by
    have := RN_le hv hA ha hb 0 s h1 (by omega)
    have := (h_ok hv hb (show wl τ b - (s + 1) < wl τ b by omega)).2
    rw [RN]
    omega
  | r + 1, 0, h1, h2 => by
    have := RN_le hv hA ha hb r 0 (by omega) h2
    have := (h_ok hv ha (show wl τ a - (r + 1) < wl τ a by omega)).2
    rw [RN]
    omega
  | r + 1, s + 1, h1, h2 => by
    have := RN_le hv hA ha hb r (s + 1) (by omega) h2
    have := (h_ok hv ha (show wl τ a - (r + 1) < wl τ a by omega)).2
    rw [RN]
    omega
/-- absolute value of a difference, as both programs have it -/
theorem abs1 {x y : Nat} (hx : x ≤ 10000) (hy : y ≤ 10000) : (if 0 ≤ nI x - nI y then nI x - nI y else 0 - (nI x - nI y)) = nI ((x - y) + (y - x)) := by
  have e : (nI x - nI y).toInt = (x : Int) - y := by rw [i_sub (by rw [ki (by omega), ki (by omega)]; omega) (by rw [ki (by omega), ki (by omega)]; omega), ki (by omega), ki (by omega)]
  have z0 : (0 : Int32).toInt = 0 := rfl
  apply i_eq
  by_cases c : 0 ≤ nI x - nI y
  · rw [if_pos c, e, ki (by omega)]
    rw [i_le] at c
    omega
  · rw [if_neg c, i_sub (by omega) (by omega), e, ki (by omega)]
    rw [i_le] at c
    omega
theorem abs2 {x y : Nat} (hx : x ≤ 10000) (hy : y ≤ 10000) : (if 0 ≤ nI x - nI y then nI x - nI y else -(nI x - nI y)) = nI ((x - y) + (y - x)) := by
  rw [← abs1 hx hy]
  congr 1
theorem c_cost {τ : rS} (hv : VB τ) (hA : VA τ) {a b i j : Nat} (ha : a < wn τ) (hb : b < wn τ) (hi : i < wl τ a) (hj : j < wl τ b) : fX5_pairCost (80 + 4 * a) (nI i) (80 + 4 * b) (nI j) τ = some (nI (csN τ a b i j), τ) := by
  have h16 := hv.2.1
  have la := (l_ok hv ha).2
  have lb := (l_ok hv hb).2
  obtain ⟨x1, x2, x3⟩ := h_ok hv ha hi
  obtain ⟨y1, y2, y3⟩ := h_ok hv hb hj
  obtain ⟨u1, u2⟩ := k_ok hv ha hi
  obtain ⟨v1, v2⟩ := k_ok hv hb hj
  obtain ⟨p1, p2⟩ := a_ok hA u2
  obtain ⟨q1, q2⟩ := a_ok hA v2
  unfold wh at x1 y1
  unfold wk at u1 v1
  unfold fX5_pairCost jX5_pairCost_66
  simp only [if_pos (bo_ok (show a < 16 by omega)), if_pos (bo_ok (show b < 16 by omega)), if_pos (th_ok (show a < 16 by omega)), if_pos (th_ok (show b < 16 by omega)), if_pos (ki_ok (show a < 16 by omega)), if_pos (ki_ok (show b < 16 by omega)), kinB (show i < 2147483648 by omega), kinB (show j < 2147483648 by omega), decide_eq_true (show i < 12 by omega), decide_eq_true (show j < 12 by omega), if_true, kc (show i < 2147483648 by omega), kc (show j < 2147483648 by omega), x1, y1, u1, v1, vI_d, abs1 x3 y3, kinB (show kN τ a i < 2147483648 by omega), kinB (show kN τ b j < 2147483648 by omega), decide_eq_true u2, decide_eq_true v2, kc (show kN τ a i < 2147483648 by omega), kc (show kN τ b j < 2147483648 by omega), p1, q1, abs1 (show aN τ (kN τ a i) ≤ 10000 by omega) (show aN τ (kN τ b j) ≤ 10000 by omega)]
  unfold csN
  by_cases c : kN τ a i = kN τ b j
  · rw [if_pos (by rw [c]), if_pos c]
    rfl
  · rw [if_neg (fun z => c ((keq (by omega) (by omega)).mp z)), if_neg c]
    have e : ∀ x y : Nat, nI x + (100 + 50 * nI y) = nI (x + (100 + 50 * y)) := fun x y => by
      show nI x + (nI 100 + nI 50 * nI y) = _
      rw [kmul, kadd, kadd]
    rw [e]
def pI : Nat → Int32
  | 0 => (-1)
  | k + 1 => nI k
theorem pI_neg {k : Nat} (h : k < 2147483648) : (pI k < 0) = (k = 0) := by
  cases k with
  | zero => exact propext ⟨fun _ => rfl, fun _ => by decide⟩
  | succ k =>
    refine propext ⟨fun z => ?_, fun z => by omega⟩
    exfalso
    have z : nI k < 0 := z
    rw [i_lt, ki (by omega)] at z
    have : (0 : Int32).toInt = 0 := rfl
    omega
theorem pI_d (k : Nat) : nI k + (-1) = pI k := by
  cases k with
  | zero => rfl
  | succ k =>
    show nI (k + 1) + (-1) = nI k
    rw [← k1 k]
    grind
theorem kmin {x y : Nat} (hx : x < 2147483648) (hy : y < 2147483648) : (if nI x < nI y then nI x else nI y) = nI (min y x) := by
  by_cases c : x < y
  · rw [if_pos ((klt hx hy).mpr c)]
    congr 1
    omega
  · rw [if_neg (fun z => c ((klt hx hy).mp z))]
    congr 1
    omega
def tab (σ : rS) (o : Nat) (τ : rS) (a b i j : Nat) : Prop := ∀ i' j', i' ≤ wl τ a → j' ≤ wl τ b → (i < i' ∨ (i' = i ∧ j ≤ j')) → σ.2.2.1 o (i' * 13 + j') = nI (RN τ a b (wl τ a - i') (wl τ b - j'))
theorem c_least {τ : rS} (hv : VB τ) (hA : VA τ) {a b i j : Nat} (ha : a < wn τ) (hb : b < wn τ) (hi : i ≤ wl τ a) (hj : j ≤ wl τ b) (ht : tab τ 24 τ a b i (j + 1)) : fX5_leastFrom (80 + 4 * a) (nI i) (80 + 4 * b) (nI j) τ = some (nI (RN τ a b (wl τ a - i) (wl τ b - j)), τ) := by
  have h16 := hv.2.1
  obtain ⟨la1, la⟩ := l_ok hv ha
  obtain ⟨lb1, lb⟩ := l_ok hv hb
  have e1 : ∀ x y : Nat, (nI x + 1) * 13 + nI y = nI ((x + 1) * 13 + y) := fun x y => by
    rw [k1]
    show nI (x + 1) * nI 13 + nI y = _
    rw [kmul, kadd]
  have e2 : ∀ x y : Nat, nI x * 13 + nI y = nI (x * 13 + y) := fun x y => by
    show nI x * nI 13 + nI y = _
    rw [kmul, kadd]
  unfold fX5_leastFrom jX5_leastFrom_19 jX5_leastFrom_145
  simp only [if_pos (bo_ok (show a < 16 by omega)), if_pos (bo_ok (show b < 16 by omega)), if_pos (th_ok (show a < 16 by omega)), if_pos (th_ok (show b < 16 by omega)), la1, lb1, e1, e2, k1, kinB (show i < 2147483648 by omega), kinB (show j < 2147483648 by omega), kc (show i < 2147483648 by omega), kc (show j < 2147483648 by omega), kinB (show (i + 1) * 13 + j < 2147483648 by omega), kc (show (i + 1) * 13 + j < 2147483648 by omega), kinB (show i * 13 + j + 1 < 2147483648 by omega), kc (show i * 13 + j + 1 < 2147483648 by omega), kinB (show (i + 1) * 13 + j + 1 < 2147483648 by omega), kc (show (i + 1) * 13 + j + 1 < 2147483648 by omega), vI_d]
  have lti : (nI i < nI (wl τ a)) = (i < wl τ a) := propext (klt (by omega) (by omega))
  have ltj : (nI j < nI (wl τ b)) = (j < wl τ b) := propext (klt (by omega) (by omega))
  have lej : (nI (wl τ b) ≤ nI j) = (wl τ b ≤ j) := propext (kle (by omega) (by omega))
  simp only [lti, ltj, lej]
  by_cases ci : i < wl τ a
  · obtain ⟨x1, x2, x3⟩ := h_ok hv ha ci
    unfold wh at x1
    have t1 := ht (i + 1) j (by omega) hj (Or.inl (by omega))
    obtain ⟨r, hr⟩ : ∃ r, wl τ a - i = r + 1 := ⟨wl τ a - i - 1, by omega⟩
    have hr2 : wl τ a - (i + 1) = r := by omega
    have hr3 : wl τ a - (r + 1) = i := by omega
    simp only [if_pos ci, x1, t1, decide_eq_true (show i < 12 by omega), decide_eq_true (show (i + 1) * 13 + j < 169 by omega), if_true, kadd]
    have b1 := RN_le hv hA ha hb r (wl τ b - j) (by omega) (by omega)
    by_cases cj : j < wl τ b
    · obtain ⟨y1, y2, y3⟩ := h_ok hv hb cj
      unfold wh at y1
      have t2 := ht i (j + 1) hi (by omega) (Or.inr ⟨rfl, Nat.le_refl _⟩)
      have t3 := ht (i + 1) (j + 1) (by omega) (by omega) (Or.inl (by omega))
      have cc := c_cost hv hA ha hb ci cj
      have cl := cs_le hv hA ha hb ci cj
      obtain ⟨s, hs⟩ : ∃ s, wl τ b - j = s + 1 := ⟨wl τ b - j - 1, by omega⟩
      have hs2 : wl τ b - (j + 1) = s := by omega
      have hs3 : wl τ b - (s + 1) = j := by omega
      rw [← Nat.add_assoc] at t2 t3
      have b2 := RN_le hv hA ha hb (r + 1) s (by omega) (by omega)
      have b3 := RN_le hv hA ha hb r s (by omega) (by omega)
      simp only [if_neg (show ¬ wl τ b ≤ j by omega), decide_eq_true (show j < 12 by omega), decide_eq_true (show i * 13 + j + 1 < 169 by omega), decide_eq_true (show (i + 1) * 13 + j + 1 < 169 by omega), if_true, y1, t2, cc, Option.bind_some, t3, kadd]
      rw [hr2, hr, hs, hs2]
      rw [hs] at b1
      rw [kmin (by omega) (by omega), kmin (by omega) (by omega), RN, hr3, hs3]
    · have hs : wl τ b - j = 0 := by omega
      rw [hs] at b1
      rw [if_pos (by omega), hr2, hr, hs, RN, hr3]
  · have hr : wl τ a - i = 0 := by omega
    by_cases cj : j < wl τ b
    · obtain ⟨y1, y2, y3⟩ := h_ok hv hb cj
      unfold wh at y1
      have t2 := ht i (j + 1) hi (by omega) (Or.inr ⟨rfl, Nat.le_refl _⟩)
      obtain ⟨s, hs⟩ : ∃ s, wl τ b - j = s + 1 := ⟨wl τ b - j - 1, by omega⟩
      have hs2 : wl τ b - (j + 1) = s := by omega
      have hs3 : wl τ b - (s + 1) = j := by omega
      rw [← Nat.add_assoc] at t2
      simp only [if_neg ci, if_pos cj, decide_eq_true (show j < 12 by omega), decide_eq_true (show i * 13 + j + 1 < 169 by omega), if_true, y1, t2, kadd]
      rw [hr, hs, hs2, RN, hs3]
    · have hs : wl τ b - j = 0 := by omega
      rw [if_neg ci, if_neg cj, hr, hs, RN]
      rfl
