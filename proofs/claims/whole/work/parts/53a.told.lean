/-! WHAT IS TOLD: borings, layers, ages, faults, lens, water, within; both halves. -/
def sqI (a b x y : Int32) : Int32 := (a - x) * (a - x) + (b - y) * (b - y)
def sqZ (a b x y : Int32) : Int := (a.toInt - x.toInt) * (a.toInt - x.toInt) + (b.toInt - y.toInt) * (b.toInt - y.toInt)
theorem sqI_i {a b x y : Int32} (ha : okR (-1000) 1000 a) (hb : okR (-1000) 1000 b) (hx : okR (-1000) 1000 x) (hy : okR (-1000) 1000 y) : (sqI a b x y).toInt = sqZ a b x y ∧ 0 ≤ sqZ a b x y ∧ sqZ a b x y ≤ 8000000 := by
  unfold okR at *
  have e1 : (a - x).toInt = a.toInt - x.toInt := i_sub (by omega) (by omega)
  have e2 : (b - y).toInt = b.toInt - y.toInt := i_sub (by omega) (by omega)
  have m1 := mulB (A := 2000) (B := 2000) (a := a.toInt - x.toInt) (b := a.toInt - x.toInt) (by omega) (by omega)
  have m2 := mulB (A := 2000) (B := 2000) (a := b.toInt - y.toInt) (b := b.toInt - y.toInt) (by omega) (by omega)
  have n1 : 0 ≤ (a.toInt - x.toInt) * (a.toInt - x.toInt) := by
    rcases Int.le_total 0 (a.toInt - x.toInt) with z | z
    · exact Int.mul_nonneg z z
    · have := Int.mul_nonneg (show 0 ≤ -(a.toInt - x.toInt) by omega) (show 0 ≤ -(a.toInt - x.toInt) by omega)
      rw [Int.neg_mul_neg] at this
      exact this
  have n2 : 0 ≤ (b.toInt - y.toInt) * (b.toInt - y.toInt) := by
    rcases Int.le_total 0 (b.toInt - y.toInt) with z | z
    · exact Int.mul_nonneg z z
    · have := Int.mul_nonneg (show 0 ≤ -(b.toInt - y.toInt) by omega) (show 0 ≤ -(b.toInt - y.toInt) by omega)
      rw [Int.neg_mul_neg] at this
      exact this
  have e3 : ((a - x) * (a - x)).toInt = (a.toInt - x.toInt) * (a.toInt - x.toInt) := by
    rw [← e1]
    exact i_mul (by rw [e1]; omega) (by rw [e1]; omega)
  have e4 : ((b - y) * (b - y)).toInt = (b.toInt - y.toInt) * (b.toInt - y.toInt) := by
    rw [← e2]
    exact i_mul (by rw [e2]; omega) (by rw [e2]; omega)
  unfold sqI sqZ
  refine ⟨?_, by omega, by omega⟩
  rw [i_add (by rw [e3, e4]; omega) (by rw [e3, e4]; omega), e3, e4]
theorem sqI_0 {a b x y : Int32} (ha : okR (-1000) 1000 a) (hb : okR (-1000) 1000 b) (hx : okR (-1000) 1000 x) (hy : okR (-1000) 1000 y) : (sqI a b x y = 0) = (x = a ∧ y = b) := by
  have h := (sqI_i ha hb hx hy).1
  apply propext
  constructor
  · intro z
    rw [z] at h
    have h0 : (0 : Int32).toInt = 0 := rfl
    rw [h0] at h
    obtain ⟨p, q⟩ := sqz (a := a.toInt - x.toInt) (b := b.toInt - y.toInt) h.symm
    exact ⟨i_eq (by omega), i_eq (by omega)⟩
  · rintro ⟨rfl, rfl⟩
    unfold sqI
    rw [Int32.sub_self, Int32.sub_self]
    rfl
theorem c_square {k : Nat} (hk : k < 16) (a b : Int32) (σ : rS) : fX7_squareTo (80 + 4 * k + 1) a b σ = some (sqI a b (wx σ k) (wy σ k), σ) := by
  unfold fX7_squareTo
  simp only [if_pos (pl_ok hk)]
  rfl
def tkB (σ : rS) (x y : Int32) (j : Nat) : Bool := decide (wx σ j = x ∧ wy σ j = y)
theorem numAt_loop {σ : rS} {m : Nat} (hm : σ.1 1 1 + σ.1 1 2 = nI m) (hm16 : m ≤ 16) (hr : ∀ k, k < m → okR (-1000) 1000 (wx σ k) ∧ okR (-1000) 1000 (wy σ k)) {x y : Int32} (hx : okR (-1000) 1000 x) (hy : okR (-1000) 1000 y) : ∀ (r k fuel : Nat), k + r = m → r < fuel → lX2_numberAt_2 fuel x y (nI k) σ = some (oI (ff (tkB σ x y) r k), σ) := by
  intro r
  induction r with
  | zero =>
    intro k fuel hk hf
    obtain ⟨f, rfl⟩ : ∃ f, fuel = f + 1 := ⟨fuel - 1, by omega⟩
    rw [lX2_numberAt_2, hm, if_pos ((kle (by omega) (by omega)).mpr (by omega))]
    rfl
  | succ r ih =>
    intro k fuel hk hf
    obtain ⟨f, rfl⟩ : ∃ f, fuel = f + 1 := ⟨fuel - 1, by omega⟩
    obtain ⟨h1, h2⟩ := hr k (by omega)
    rw [lX2_numberAt_2, hm, if_neg (fun z => by rw [kle (by omega) (by omega)] at z; omega), kinB (by omega), if_pos (decide_eq_true (by omega)), kc (by omega), if_pos (bo_ok (by omega)), if_pos (pl_ok (by omega)), c_square (by omega), Option.bind_some, ff]
    dsimp only
    simp only [sqI_0 hx hy h1 h2]
    by_cases hp : wx σ k = x ∧ wy σ k = y
    · rw [if_pos hp, if_pos (show tkB σ x y k = true from decide_eq_true hp)]
      rfl
    · rw [if_neg hp, if_neg (by unfold tkB; simp only [decide_eq_true_eq]; exact hp), vI_d]
      have : nI k + 1 = nI (k + 1) := kadd k 1
      rw [this]
      exact ih (k + 1) f (by omega) (by omega)
theorem c_numAt {σ : rS} {m : Nat} (hm : σ.1 1 1 + σ.1 1 2 = nI m) (hm16 : m ≤ 16) (hr : ∀ k, k < m → okR (-1000) 1000 (wx σ k) ∧ okR (-1000) 1000 (wy σ k)) {x y : Int32} (hx : okR (-1000) 1000 x) (hy : okR (-1000) 1000 y) : fX2_numberAt x y σ = some (oI (ff (tkB σ x y) m 0), σ) := by
  unfold fX2_numberAt
  exact numAt_loop hm hm16 hr hx hy m 0 1000 (by omega) (by omega)
/-- what the model holds of the borings of τ -/
def MB (τ σ : rS) : Prop := σ.1 43 2 = nI (wn τ) ∧ ∀ k, k < wn τ → σ.2.2.1 44 k = wx τ k ∧ σ.2.2.1 45 k = wy τ k ∧ σ.2.2.1 46 k = wt τ k ∧ σ.2.2.1 47 k = nI (wl τ k) ∧ ∀ i, i < wl τ k → σ.2.2.1 48 (12 * k + i) = wk τ k i ∧ σ.2.2.1 49 (12 * k + i) = wh τ k i
/-- is there a taken place among those from k on -/
def anyF (p : Nat → Bool) : Nat → Nat → Bool
  | 0, _ => false
  | r + 1, k => p k || anyF p r (k + 1)
theorem anyF_ff {p : Nat → Bool} : ∀ {r k : Nat}, anyF p r k = (ff p r k).isSome
  | 0, k => rfl
  | r + 1, k => by
    rw [anyF, ff]
    cases hp : p k with
    | true => rfl
    | false =>
      rw [if_neg (by decide), anyF_ff]
      rfl
theorem taken_loop {τ σ : rS} (hM : MB τ σ) (hn : wn τ ≤ 16) {x y : Int32} : ∀ (r k fuel : Nat) (b : Bool), k + r = wn τ → r < fuel → lX12_isTaken_5 fuel x y (bI b) (nI k) σ = some (bI (b || anyF (tkB τ x y) r k), σ) := by
  intro r
  induction r with
  | zero =>
    intro k fuel b hk hf
    obtain ⟨f, rfl⟩ : ∃ f, fuel = f + 1 := ⟨fuel - 1, by omega⟩
    rw [lX12_isTaken_5, hM.1, if_pos ((kle (by omega) (by omega)).mpr (by omega))]
    simp only [bI_01, if_true, anyF, Bool.or_false]
  | succ r ih =>
    intro k fuel b hk hf
    obtain ⟨f, rfl⟩ : ∃ f, fuel = f + 1 := ⟨fuel - 1, by omega⟩
    obtain ⟨h1, h2, _⟩ := hM.2 k (by omega)
    have hk1 : nI k + 1 = nI (k + 1) := kadd k 1
    rw [lX12_isTaken_5, hM.1, if_neg (fun z => by rw [kle (by omega) (by omega)] at z; omega), kinB (by omega), decide_eq_true (show k < 16 by omega), kc (by omega), h1, h2]
    simp only [bI_0, if_true, jX12_isTaken_40, jX12_isTaken_44, jX12_isTaken_45, vI_d, hk1]
    have t1 := ih (k + 1) f true (by omega) (by omega)
    have t0 := ih (k + 1) f false (by omega) (by omega)
    rw [bI_t] at t1
    rw [bI_f] at t0
    rw [t1, t0, anyF]
    unfold tkB
    cases b with
    | true => simp
    | false =>
      by_cases a1 : wx τ k = x <;> by_cases a2 : wy τ k = y <;> simp [a1, a2]
theorem m_taken {τ σ : rS} (hM : MB τ σ) (hn : wn τ ≤ 16) {x y : Int32} : fX12_isTaken x y σ = some (bI (ff (tkB τ x y) (wn τ) 0).isSome, σ) := by
  unfold fX12_isTaken
  have := taken_loop hM hn (x := x) (y := y) (wn τ) 0 1000 false (by omega) (by omega)
  rw [bI_f] at this
  rw [← anyF_ff]
  exact this
