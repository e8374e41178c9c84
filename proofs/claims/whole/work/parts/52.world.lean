/-! THE WORLD as the class half of the store has it. -/
def wn (τ : rS) : Nat := (τ.1 1 1).toNatClampNeg
def wx (τ : rS) (k : Nat) : Int32 := τ.1 (80 + 4 * k + 1) 0
def wy (τ : rS) (k : Nat) : Int32 := τ.1 (80 + 4 * k + 1) 1
def wt (τ : rS) (k : Nat) : Int32 := τ.1 (80 + 4 * k) 3
def wl (τ : rS) (k : Nat) : Nat := (τ.1 (80 + 4 * k) 4).toNatClampNeg
def wk (τ : rS) (k i : Nat) : Int32 := τ.2.2.1 (80 + 4 * k + 2) i
def wh (τ : rS) (k i : Nat) : Int32 := τ.2.2.1 (80 + 4 * k + 3) i
def okR (lo hi : Int) (a : Int32) : Prop := lo ≤ a.toInt ∧ a.toInt ≤ hi
/-- borings -/
def VB (τ : rS) : Prop := τ.1 1 1 = nI (wn τ) ∧ wn τ ≤ 16 ∧ τ.1 1 2 = 0 ∧
  (∀ k, k < wn τ → okR (-1000) 1000 (wx τ k) ∧ okR (-1000) 1000 (wy τ k) ∧ okR (-100000) 100000 (wt τ k) ∧ τ.1 (80 + 4 * k) 4 = nI (wl τ k) ∧ wl τ k ≤ 12 ∧ ∀ i, i < wl τ k → okR 0 7 (wk τ k i) ∧ okR 1 10000 (wh τ k i)) ∧
  (∀ j k, j < k → k < wn τ → ¬ (wx τ j = wx τ k ∧ wy τ j = wy τ k))
abbrev oB (n : Nat) : Prop := n = 1 ∨ (80 ≤ n ∧ n < 144)
section Kept
variable {σ τ : rS}
theorem wn_kp (h : Eqo τ σ 1) : wn τ = wn σ := by unfold wn; rw [h.1]
theorem wx_kp {k : Nat} (h : Eqo τ σ (80 + 4 * k + 1)) : wx τ k = wx σ k := h.1 0
theorem wy_kp {k : Nat} (h : Eqo τ σ (80 + 4 * k + 1)) : wy τ k = wy σ k := h.1 1
theorem wt_kp {k : Nat} (h : Eqo τ σ (80 + 4 * k)) : wt τ k = wt σ k := h.1 3
theorem wl_kp {k : Nat} (h : Eqo τ σ (80 + 4 * k)) : wl τ k = wl σ k := by unfold wl; rw [h.1]
theorem wk_kp {k i : Nat} (h : Eqo τ σ (80 + 4 * k + 2)) : wk τ k i = wk σ k i := h.2.2 i
theorem wh_kp {k i : Nat} (h : Eqo τ σ (80 + 4 * k + 3)) : wh τ k i = wh σ k i := h.2.2 i
theorem VB.kp (h : ∀ n, oB n → Eqo τ σ n) (hv : VB σ) : VB τ := by
  obtain ⟨h1, h2, h3, h4, h5⟩ := hv
  have e1 := wn_kp (h 1 (Or.inl rfl))
  refine ⟨by rw [(h 1 (Or.inl rfl)).1, e1, h1], by rw [e1]; exact h2, by rw [(h 1 (Or.inl rfl)).1]; exact h3, fun k hk => ?_, fun j k hj hk => ?_⟩
  · rw [e1] at hk
    have a := h (80 + 4 * k) (Or.inr ⟨by omega, by omega⟩)
    have b := h (80 + 4 * k + 1) (Or.inr ⟨by omega, by omega⟩)
    have c := h (80 + 4 * k + 2) (Or.inr ⟨by omega, by omega⟩)
    have d := h (80 + 4 * k + 3) (Or.inr ⟨by omega, by omega⟩)
    rw [wx_kp b, wy_kp b, wt_kp a, wl_kp a, a.1 4]
    simp only [wk_kp c, wh_kp d]
    exact h4 k hk
  · rw [e1] at hk
    have b := h (80 + 4 * j + 1) (Or.inr ⟨by omega, by omega⟩)
    have c := h (80 + 4 * k + 1) (Or.inr ⟨by omega, by omega⟩)
    rw [wx_kp b, wy_kp b, wx_kp c, wy_kp c]
    exact h5 j k hj hk
end Kept
theorem bo_ok {k : Nat} (h : k < 16) : isBo (80 + 4 * k) := by unfold isBo; omega
theorem pl_ok {k : Nat} (h : k < 16) : isPl (80 + 4 * k + 1) := by unfold isPl; omega
theorem ki_ok {k : Nat} (h : k < 16) : isKi (80 + 4 * k + 2) := by unfold isKi; omega
theorem th_ok {k : Nat} (h : k < 16) : isTh (80 + 4 * k + 3) := by unfold isTh; omega
theorem f0_ok {k : Nat} (h : k < 8) : isPl (144 + 2 * k) := by unfold isPl; omega
theorem f1_ok {k : Nat} (h : k < 8) : isPl (145 + 2 * k) := by unfold isPl; omega
/-- the first of k, k + 1, .. (r of them) that is so -/
def ff (p : Nat → Bool) : Nat → Nat → Option Nat
  | 0, _ => none
  | r + 1, k => if p k = true then some k else ff p r (k + 1)
def oI (o : Option Nat) : Int32 := match o with | none => (-1) | some k => nI k
theorem ff_some {p : Nat → Bool} : ∀ {r k m : Nat}, ff p r k = some m → k ≤ m ∧ m < k + r ∧ p m = true ∧ ∀ j, k ≤ j → j < m → p j = false
  | 0, k, m, h => by cases h
  | r + 1, k, m, h => by
    rw [ff] at h
    by_cases hp : p k = true
    · rw [if_pos hp] at h
      obtain rfl : k = m := Option.some.inj h
      exact ⟨Nat.le_refl _, by omega, hp, fun j a b => by omega⟩
    · rw [if_neg hp] at h
      obtain ⟨a, b, c, d⟩ := ff_some h
      refine ⟨by omega, by omega, c, fun j e f => ?_⟩
      by_cases hj : j = k
      · subst hj
        simpa using hp
      · exact d j (by omega) f
theorem ff_none {p : Nat → Bool} : ∀ {r k : Nat}, ff p r k = none ↔ ∀ j, k ≤ j → j < k + r → p j = false
  | 0, k => ⟨fun _ j a b => by omega, fun _ => rfl⟩
  | r + 1, k => by
    rw [ff]
    by_cases hp : p k = true
    · rw [if_pos hp]
      refine ⟨fun z => (by cases z), fun z => ?_⟩
      have := z k (Nat.le_refl _) (by omega)
      rw [hp] at this
      cases this
    · rw [if_neg hp, ff_none]
      refine ⟨fun z j a b => ?_, fun z j a b => z j (by omega) (by omega)⟩
      by_cases hj : j = k
      · subst hj
        simpa using hp
      · exact z j (by omega) (by omega)
theorem oI_1 {o : Option Nat} (h : ∀ m, o = some m → m < 2147483648) : (oI o = (-1)) = (o = none) := by
  cases o with
  | none => simp [oI]
  | some m =>
    have := kne1 (h m rfl)
    simp [oI]
    exact this
/-- small tests -/
theorem e_isFrom (a b c : Int32) (σ : rS) : fX11_isFrom a b c σ = some (bI (decide (a ≤ c ∧ c ≤ b)), σ) := by
  unfold fX11_isFrom jX11_isFrom_14 jX11_isFrom_15
  simp only [i_lt, i_le]
  by_cases h1 : c.toInt < a.toInt
  · rw [if_pos h1, if_pos (Or.inl trivial), decide_eq_false (by omega)]; rfl
  · rw [if_neg h1]
    by_cases h2 : b.toInt < c.toInt
    · rw [if_pos h2, if_pos (Or.inl trivial), decide_eq_false (by omega)]; rfl
    · rw [if_neg h2, if_pos (Or.inr trivial), decide_eq_true (by omega)]; rfl
theorem m_in (a b c : Int32) (σ : rS) : fX12_in a b c σ = some (bI (decide (b ≤ a ∧ a ≤ c)), σ) := by
  unfold fX12_in jX12_in_14 jX12_in_15
  simp only [i_lt, i_le]
  by_cases h1 : a.toInt < b.toInt
  · rw [if_pos h1, if_pos (Or.inl trivial), decide_eq_false (by omega)]; rfl
  · rw [if_neg h1]
    by_cases h2 : c.toInt < a.toInt
    · rw [if_pos h2, if_pos (Or.inl trivial), decide_eq_false (by omega)]; rfl
    · rw [if_neg h2, if_pos (Or.inr trivial), decide_eq_true (by omega)]; rfl
def okB (lo hi : Int) (a : Int32) : Bool := decide (lo ≤ a.toInt ∧ a.toInt ≤ hi)
theorem okB_t {lo hi : Int} {a : Int32} : okB lo hi a = true ↔ okR lo hi a := by unfold okB okR; exact decide_eq_true_iff
theorem c_from {lo hi : Int32} (a : Int32) (σ : rS) : fX11_isFrom lo hi a σ = some (bI (okB lo.toInt hi.toInt a), σ) := by
  rw [e_isFrom]
  unfold okB
  simp only [i_le]
theorem m_from {lo hi : Int32} (a : Int32) (σ : rS) : fX12_in a lo hi σ = some (bI (okB lo.toInt hi.toInt a), σ) := by
  rw [m_in]
  unfold okB
  simp only [i_le]
def okP (x y : Int32) : Bool := okB (-1000) 1000 x && okB (-1000) 1000 y
theorem c_place (x y : Int32) (σ : rS) : fX11_isPlace x y σ = some (bI (okP x y), σ) := by
  unfold fX11_isPlace jX11_isPlace_30 jX11_isPlace_31 okP
  rw [c_from]
  simp only [Option.bind_some, bI_0]
  rw [c_from]
  simp only [Option.bind_some, bI_0]
  show (if okB (-1000) 1000 x = false then _ else if okB (-1000) 1000 y = false then _ else _) = _
  cases okB (-1000) 1000 x <;> cases okB (-1000) 1000 y <;> rfl
theorem m_place (x y : Int32) (σ : rS) : fX12_isPlace x y σ = some (bI (okP x y), σ) := by
  unfold fX12_isPlace jX12_isPlace_30 jX12_isPlace_31 okP
  rw [m_from]
  simp only [Option.bind_some, bI_0]
  rw [m_from]
  simp only [Option.bind_some, bI_0]
  show (if okB (-1000) 1000 x = false then _ else if okB (-1000) 1000 y = false then _ else _) = _
  cases okB (-1000) 1000 x <;> cases okB (-1000) 1000 y <;> rfl
theorem c_level (a : Int32) (σ : rS) : fX11_isLevel a σ = some (bI (okB (-100000) 100000 a), σ) := by
  unfold fX11_isLevel
  rw [c_from]
  simp only [Option.bind_some, bI_01, if_true]
  rfl
theorem c_kind (a : Int32) (σ : rS) : fX11_isKind a σ = some (bI (okB 0 7 a), σ) := by
  unfold fX11_isKind
  rw [c_from]
  simp only [Option.bind_some, bI_01, if_true]
  rfl
theorem c_thick (a : Int32) (σ : rS) : fX11_isThickness a σ = some (bI (okB 1 10000 a), σ) := by
  unfold fX11_isThickness
  rw [c_from]
  simp only [Option.bind_some, bI_01, if_true]
  rfl
theorem c_week (a : Int32) (σ : rS) : fX11_isWeek a σ = some (bI (okB 0 99 a), σ) := by
  unfold fX11_isWeek
  rw [c_from]
  simp only [Option.bind_some, bI_01, if_true]
  rfl
/-- a square of two places -/
theorem sqz {a b : Int} (h : a * a + b * b = 0) : a = 0 ∧ b = 0 := by
  have h1 : 0 ≤ a * a := by
    rcases Int.le_total 0 a with z | z
    · exact Int.mul_nonneg z z
    · have := Int.mul_nonneg (show 0 ≤ -a by omega) (show 0 ≤ -a by omega)
      rw [Int.neg_mul_neg] at this
      exact this
  have h2 : 0 ≤ b * b := by
    rcases Int.le_total 0 b with z | z
    · exact Int.mul_nonneg z z
    · have := Int.mul_nonneg (show 0 ≤ -b by omega) (show 0 ≤ -b by omega)
      rw [Int.neg_mul_neg] at this
      exact this
  have h3 : a * a = 0 := by omega
  have h4 : b * b = 0 := by omega
  rcases Int.mul_eq_zero.mp h3 with h3 | h3 <;> rcases Int.mul_eq_zero.mp h4 with h4 | h4 <;> exact ⟨h3, h4⟩
theorem mulB {a b : Int} {A B : Int} (ha : -A ≤ a ∧ a ≤ A) (hb : -B ≤ b ∧ b ≤ B) : -(A * B) ≤ a * b ∧ a * b ≤ A * B := by
  have e1 := Int.mul_nonneg (show 0 ≤ A - a by omega) (show 0 ≤ B - b by omega)
  have e2 := Int.mul_nonneg (show 0 ≤ A + a by omega) (show 0 ≤ B + b by omega)
  have e3 := Int.mul_nonneg (show 0 ≤ A - a by omega) (show 0 ≤ B + b by omega)
  have e4 := Int.mul_nonneg (show 0 ≤ A + a by omega) (show 0 ≤ B - b by omega)
  have f1 : (A - a) * (B - b) = A * B - A * b - a * B + a * b := by grind
  have f2 : (A + a) * (B + b) = A * B + A * b + a * B + a * b := by grind
  have f3 : (A - a) * (B + b) = A * B + A * b - a * B - a * b := by grind
  have f4 : (A + a) * (B - b) = A * B - A * b + a * B - a * b := by grind
  omega
