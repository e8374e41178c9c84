/-! A NUMBER IN DIGITS, AS THE CLASS'S BUILDER WRITES IT. -/
def nd (n : Nat) : Nat := if n < 10 then 1 else if n < 100 then 2 else if n < 1000 then 3 else if n < 10000 then 4 else if n < 100000 then 5 else 6
theorem nd_pow {m i : Nat} (h1 : 1 ≤ i) (h6 : i ≤ 6) (hm : m < 1000000) : i < nd m ↔ 10 ^ i ≤ m := by
  have : i = 1 ∨ i = 2 ∨ i = 3 ∨ i = 4 ∨ i = 5 ∨ i = 6 := by omega
  rcases this with rfl | rfl | rfl | rfl | rfl | rfl <;> unfold nd <;> (repeat' split) <;> omega
theorem nd_6 (m : Nat) : 1 ≤ nd m ∧ nd m ≤ 6 := by unfold nd; (repeat' split) <;> omega
theorem nd_100 {m : Nat} (h : 100 ≤ m) (hm : m < 1000000) : nd m = nd (m / 100) + 2 := by unfold nd; (repeat' split) <;> omega
def dgE : Nat → Nat → List Int32
  | 0, _ => []
  | e + 1, n => nI (48 + n / 10 ^ e % 10) :: dgE e n
theorem dgE_len : ∀ e n, (dgE e n).length = e
  | 0, _ => rfl
  | e + 1, n => by rw [dgE, List.length_cons, dgE_len e n]
theorem dgE_get : ∀ {e n k : Nat}, k < e → (dgE e n)[k]? = some (nI (48 + n / 10 ^ (e - 1 - k) % 10))
  | 0, _, _, h => absurd h (by omega)
  | e + 1, n, 0, _ => by rw [dgE, List.getElem?_cons_zero]; rfl
  | e + 1, n, k + 1, h => by
    rw [dgE, List.getElem?_cons_succ, dgE_get (by omega)]
    have : e + 1 - 1 - (k + 1) = e - 1 - k := by omega
    rw [this]
def ab (v : Int32) : Nat := v.toInt.natAbs
def dig (v : Int32) : List Int32 := (if v < 0 then [45] else []) ++ dgE (nd (ab v)) (ab v)
def wr (f : Nat → Int32) (p d m : Nat) : Nat → Int32 := fun k => if p ≤ k ∧ k < p + d then nI (48 + m / 10 ^ (p + d - 1 - k) % 10) else f k
theorem km1 {a : Nat} (h : 1 ≤ a) (ha : a < 2147483648) : nI a + (-1) = nI (a - 1) := by
  apply i_eq
  have e : (-1 : Int32).toInt = -1 := rfl
  rw [i_add (by rw [e, ki ha]; omega) (by rw [e, ki ha]; omega), e, ki ha, ki (by omega)]
  omega
theorem wr1 (f : Nat → Int32) (p m : Nat) : upd f p (nI (48 + m % 10)) = wr f p 1 m := by
  funext k
  unfold upd wr
  by_cases z : k = p
  · rw [if_pos z, if_pos (by omega), z, Nat.add_sub_cancel, Nat.sub_self]
    congr 1
    rw [Nat.pow_zero, Nat.div_one]
  · rw [if_neg z, if_neg (by omega)]
theorem wr2 (f : Nat → Int32) (p : Nat) {m : Nat} (hm : m < 100) : upd (upd f (p + 1) (nI (48 + m % 10))) p (nI (48 + m / 10)) = wr f p 2 m := by
  funext k
  unfold upd wr
  by_cases z : k = p
  · have e : p + 2 - 1 - k = 1 := by omega
    rw [if_pos z, if_pos (by omega), e, Nat.pow_one]
    congr 2
    omega
  · rw [if_neg z]
    by_cases y : k = p + 1
    · have e : p + 2 - 1 - k = 0 := by omega
      rw [if_pos y, if_pos (by omega), e, Nat.pow_zero, Nat.div_one]
    · rw [if_neg y, if_neg (by omega)]
theorem wrS (f : Nat → Int32) (p d m : Nat) : wr (upd (upd f (p + d + 1) (nI (48 + m % 100 % 10))) (p + d) (nI (48 + m % 100 / 10))) p d (m / 100) = wr f p (d + 2) m := by
  funext k
  unfold upd wr
  by_cases z : p ≤ k ∧ k < p + d
  · have e : p + (d + 2) - 1 - k = (p + d - 1 - k) + 2 := by omega
    rw [if_pos z, if_pos (by omega), e, Nat.pow_add, Nat.div_div_eq_div_mul, Nat.mul_comm 100]
  · rw [if_neg z]
    dsimp only
    by_cases y : k = p + d
    · have e : p + (d + 2) - 1 - k = 1 := by omega
      rw [if_pos y, if_pos (by omega), e, Nat.pow_one]
      congr 2
      omega
    · rw [if_neg y]
      by_cases x : k = p + d + 1
      · have e : p + (d + 2) - 1 - k = 0 := by omega
        rw [if_pos x, if_pos (by omega), e, Nat.pow_zero, Nat.div_one]
        congr 2
        omega
      · rw [if_neg x, if_neg (by omega)]
theorem ngv {v : Int32} {m : Nat} (hv : v.toInt = -(m : Int)) (hm : m ≤ 100000) : -v = nI m := by
  apply i_eq
  rw [i_neg (by omega), hv, ki (by omega)]
  omega
theorem c_size {m : Nat} (hm : m ≤ 100000) {v0 : Int32} (hv : v0.toInt = -(m : Int)) (s : Int32) (σ : rS) : ∀ (r i fuel : Nat) (v2 : Int32), i + r = nd m → 1 ≤ i → r < fuel → v2.toInt = -((10 ^ i : Nat) : Int) → lJ6_stringSize_0f7a4_16 fuel v0 s v2 (nI i) σ = some (nI (nd m) + s, σ) := by
  intro r
  have n6 := nd_6 m
  induction r with
  | zero =>
    intro i fuel v2 hi h1 hf h2
    obtain ⟨fu, rfl⟩ : ∃ fu, fuel = fu + 1 := ⟨fuel - 1, by omega⟩
    have np := nd_pow h1 (by omega) (m := m) (by omega)
    rw [lJ6_stringSize_0f7a4_16, if_neg (by show ¬ nI 10 ≤ nI i; rw [kle (by omega) (by omega)]; omega), if_neg (by rw [i_le, hv, h2]; omega), ← hi]
    rfl
  | succ r ih =>
    intro i fuel v2 hi h1 hf h2
    obtain ⟨fu, rfl⟩ : ∃ fu, fuel = fu + 1 := ⟨fuel - 1, by omega⟩
    have np := nd_pow h1 (by omega) (m := m) (by omega)
    have e10 : (10 : Int32).toInt = 10 := rfl
    have p6 : 10 ^ i ≤ m := np.mp (by omega)
    rw [lJ6_stringSize_0f7a4_16, if_neg (by show ¬ nI 10 ≤ nI i; rw [kle (by omega) (by omega)]; omega), if_pos (by rw [i_le, hv, h2]; omega), vI_d, vI_d]
    have e1 : nI i + 1 = nI (i + 1) := kadd _ 1
    rw [e1]
    refine ih (i + 1) fu _ (by omega) (by omega) (by omega) ?_
    rw [Nat.pow_succ]
    generalize 10 ^ i = P at h2 p6
    rw [i_mul (by rw [e10, h2]; omega) (by rw [e10, h2]; omega), e10, h2]
    omega
theorem c_chars : ∀ (r m fuel : Nat) (v0 : Int32) (p : Nat) (v6 : Int32) (σ : rS), m < 100 ^ (r + 1) → m ≤ 100000 → v0.toInt = -(m : Int) → r < fuel → p + nd m ≤ σ.2.2.2.2.1 → σ.2.2.2.2.1 ≤ 142 → lJ6_getChars_ba4f3_22 fuel v0 (nI (p + nd m)) v6 σ = jJ6_getChars_ba4f3_104 (nI p) v6 (uB σ σ.2.2.2.2.1 (wr σ.2.2.2.2.2 p (nd m) m)) := by
  intro r
  induction r with
  | zero =>
    intro m fuel v0 p v6 σ h1 h2 hv hf hc h142
    obtain ⟨fu, rfl⟩ : ∃ fu, fuel = fu + 1 := ⟨fuel - 1, by omega⟩
    have n6 := nd_6 m
    have h100 : m < 100 := h1
    have e100 : (-100 : Int32).toInt = -100 := rfl
    have e9 : (-9 : Int32).toInt = -9 := rfl
    have b1 := (byt (48 + m % 10) (by omega)).1
    have b2 := (byt (48 + m / 10) (by omega)).1
    rw [lJ6_getChars_ba4f3_22, if_pos (by rw [i_lt, e100, hv]; omega), vI_d, ngv hv h2, km1 (by omega) (by omega), kinB (by omega), decide_eq_true h100, if_pos rfl, kinB (by omega), decide_eq_true (by omega), if_pos rfl, vS_d, kc (by omega), kc (by omega), b1]
    by_cases c : m < 10
    · have d1 : nd m = 1 := by unfold nd; rw [if_pos c]
      rw [if_pos (by rw [i_le, e9, hv]; omega), d1, Nat.add_sub_cancel, wr1]
    · have d2 : nd m = 2 := by unfold nd; rw [if_neg c, if_pos h100]
      have i2 : inB (nI (p + 1 - 1)) (uB σ σ.2.2.2.2.1 (upd σ.2.2.2.2.2 (p + 1) (nI (48 + m % 10)))).2.2.2.2.1 = true := by
        show inB (nI (p + 1 - 1)) σ.2.2.2.2.1 = true
        rw [kinB (by omega)]; exact decide_eq_true (by omega)
      have e2 : p + 2 - 1 = p + 1 := rfl
      rw [if_neg (by rw [i_le, e9, hv]; omega), d2, vI_d, e2, km1 (by omega) (by omega), i2, if_pos rfl, if_pos rfl, vS_d, kc (by omega), b2, Nat.add_sub_cancel]
      have := wr2 σ.2.2.2.2.2 p h100
      rw [← this]
      rfl
  | succ r ih =>
    intro m fuel v0 p v6 σ h1 h2 hv hf hc h142
    by_cases h100 : m < 100
    · have p1 : 100 ≤ 100 ^ (r + 1) := by
        have := Nat.pow_le_pow_right (n := 100) (by omega) (show 1 ≤ r + 1 by omega)
        rwa [Nat.pow_one] at this
      exact ih m fuel v0 p v6 σ (by omega) h2 hv (by omega) hc h142
    obtain ⟨fu, rfl⟩ : ∃ fu, fuel = fu + 1 := ⟨fuel - 1, by omega⟩
    have n6 := nd_6 (m / 100)
    have nn := nd_100 (m := m) (by omega) (by omega)
    have e100 : (-100 : Int32).toInt = -100 := rfl
    have e1 : (100 : Int32).toInt = 100 := rfl
    have q1 : (v0 / 100).toInt = -((m / 100 : Nat) : Int) := by
      rw [Int32.toInt_div_of_ne_right _ _ (by decide), hv, e1, Int.neg_tdiv]
      congr 1
    have q2 : (v0 / 100) * 100 - v0 = nI (m % 100) := by
      apply i_eq
      have a : (v0 / 100 * 100).toInt = -((m / 100 : Nat) : Int) * 100 := by rw [i_mul (by rw [q1, e1]; omega) (by rw [q1, e1]; omega), q1, e1]
      rw [i_sub (by rw [a, hv]; omega) (by rw [a, hv]; omega), a, hv, ki (by omega)]
      omega
    have b1 := (byt (48 + m % 100 % 10) (by omega)).1
    have b2 := (byt (48 + m % 100 / 10) (by omega)).1
    have e2 : p + nd m - 1 = p + nd (m / 100) + 1 := by omega
    have i2 : inB (nI (p + nd (m / 100))) (uB σ σ.2.2.2.2.1 (upd σ.2.2.2.2.2 (p + nd (m / 100) + 1) (nI (48 + m % 100 % 10)))).2.2.2.2.1 = true := by
      show inB (nI _) σ.2.2.2.2.1 = true
      rw [kinB (by omega)]; exact decide_eq_true (by omega)
    rw [lJ6_getChars_ba4f3_22, if_neg (by rw [i_lt, e100, hv]; omega), vI_d, vI_d, vI_d, q2, km1 (by omega) (by omega), e2, kinB (by omega), decide_eq_true (by omega), if_pos rfl, kinB (by omega), decide_eq_true (by omega), if_pos rfl, vS_d, vI_d, km1 (by omega) (by omega), Nat.add_sub_cancel, kc (by omega), kc (by omega), b1, i2, if_pos rfl, if_pos rfl, vS_d, kc (by omega), b2]
    have st := ih (m / 100) fu (v0 / 100) p v6 (uB σ σ.2.2.2.2.1 (upd (upd σ.2.2.2.2.2 (p + nd (m / 100) + 1) (nI (48 + m % 100 % 10))) (p + nd (m / 100)) (nI (48 + m % 100 / 10)))) (by rw [Nat.pow_succ] at h1; omega) (by omega) q1 (by omega) (by show p + nd (m / 100) ≤ σ.2.2.2.2.1; omega) h142
    refine Eq.trans st ?_
    rw [nn, ← wrS]
    rfl
