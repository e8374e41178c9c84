/-! THE GREATEST COMMON DIVISOR; LEVELS ON A PLANE. -/
def eu : Nat → Nat → Nat → Nat
  | 0, a, _ => a
  | s + 1, a, b => if b = 0 then a else eu s b (a % b)
theorem eu_0 : ∀ s a, eu s a 0 = a
  | 0, a => rfl
  | s + 1, a => by rw [eu, if_pos rfl]
theorem eu_gcd : ∀ (k s a b : Nat), b < 2 ^ k → 2 * k + 1 ≤ s → eu s a b = Nat.gcd a b
  | 0, s, a, b, hb, hs => by
    have : b = 0 := by omega
    subst this
    rw [eu_0, Nat.gcd_zero_right]
  | k + 1, s, a, b, hb, hs => by
    obtain ⟨s, rfl⟩ : ∃ s', s = s' + 1 + 1 := ⟨s - 2, by omega⟩
    by_cases c : b = 0
    · subst c
      rw [eu_0, Nat.gcd_zero_right]
    · rw [eu, if_neg c]
      have e1 : Nat.gcd a b = Nat.gcd b (a % b) := by rw [Nat.gcd_comm, Nat.gcd_rec, Nat.gcd_comm]
      rw [e1]
      by_cases d : a % b = 0
      · rw [d, eu_0, Nat.gcd_zero_right]
      · rw [eu, if_neg d]
        have e2 : Nat.gcd b (a % b) = Nat.gcd (a % b) (b % (a % b)) := by rw [Nat.gcd_comm, Nat.gcd_rec, Nat.gcd_comm]
        rw [e2]
        have r1 : a % b < b := Nat.mod_lt _ (by omega)
        have r2 : b % (a % b) < a % b := Nat.mod_lt _ (by omega)
        have r3 : b % (a % b) + (a % b) ≤ b := by
          have h1 := Nat.div_add_mod b (a % b)
          have h2 : 1 ≤ b / (a % b) := (Nat.one_le_div_iff (by omega)).mpr (by omega)
          have h3 := Nat.mul_le_mul_left (a % b) h2
          omega
        have P : 2 ^ (k + 1) = 2 ^ k + 2 ^ k := by rw [Nat.pow_succ]; omega
        exact eu_gcd k s _ _ (by omega) (by omega)
def jI (n : Nat) : Int64 := Int64.ofNat n
theorem ji {n : Nat} (h : n < 9223372036854775808) : (jI n).toInt = (n : Int) := by
  unfold jI
  exact Int64.toInt_ofNat_of_lt h
theorem l_eq {a b : Int64} (h : a.toInt = b.toInt) : a = b := Int64.toInt_inj.mp h
theorem j_nI {n : Nat} (h : n < 2147483648) : (nI n).toInt64 = jI n := l_eq (by rw [l_i, ki h, ji (by omega)])
theorem l_div {a b : Int64} (h : b.toInt ≠ -1) : (a / b).toInt = a.toInt.tdiv b.toInt := by
  rw [Int64.toInt_div]
  have h1 := Int64.le_toInt a
  have h2 := Int64.toInt_lt a
  have h3 : (a.toInt.tdiv b.toInt).natAbs ≤ a.toInt.natAbs := by
    rw [Int.natAbs_tdiv]
    exact Nat.div_le_self _ _
  by_cases z : a.toInt = -9223372036854775808
  · by_cases w : b.toInt = 1
    · rw [w, Int.tdiv_one]
      exact bm64 (by omega) (by omega)
    · by_cases u : b.toInt = 0
      · rw [u, Int.tdiv_zero]
        exact bm64 (by omega) (by omega)
      · have : (a.toInt.tdiv b.toInt).natAbs ≤ 4611686018427387904 := by
          rw [Int.natAbs_tdiv, z]
          have : 2 ≤ b.toInt.natAbs := by omega
          calc (-9223372036854775808 : Int).natAbs / b.toInt.natAbs ≤ (-9223372036854775808 : Int).natAbs / 2 := Nat.div_le_div_left this (by omega)
            _ = 4611686018427387904 := by decide
        exact bm64 (by omega) (by omega)
  · exact bm64 (by omega) (by omega)
theorem j_mod {a b : Nat} (ha : a < 9223372036854775808) (hb : b < 9223372036854775808) (h0 : b ≠ 0) : jI a - jI a / jI b * jI b = jI (a % b) := by
  apply l_eq
  have h1 := Nat.div_mul_le_self a b
  have h2 := Nat.div_le_self a b
  have h3 := Nat.div_add_mod a b
  rw [Nat.mul_comm] at h3
  have e1 : (jI a / jI b).toInt = ((a / b : Nat) : Int) := by
    rw [l_div (by rw [ji hb]; omega), ji ha, ji hb]
    rw [Int.tdiv_eq_ediv_of_nonneg (by omega)]
    exact (Int.natCast_ediv a b).symm
  have e2 : (jI a / jI b * jI b).toInt = ((a / b * b : Nat) : Int) := by
    rw [l_mul, e1, ji hb]
    · rw [Int.natCast_mul]
    · rw [e1, ji hb, ← Int.natCast_mul]; omega
    · rw [e1, ji hb, ← Int.natCast_mul]; omega
  rw [l_sub, e2, ji ha, ji (by omega)]
  · omega
  · rw [e2, ji ha]; omega
  · rw [e2, ji ha]; omega
theorem j_cmp {b : Nat} (hb : b < 9223372036854775808) : (lg_cmp (jI b) 0 = 0) = (b = 0) := by
  rw [l_cmp, sgI_0, ji hb]
  exact propext ⟨fun z => by omega, fun z => by omega⟩
theorem j_ne {b : Nat} (hb : b < 9223372036854775808) : (jI b = 0) = (b = 0) := by
  rw [l_eqi, ji hb]
  show ((b : Int) = 0) = _
  exact propext ⟨fun z => by omega, fun z => by omega⟩
theorem c_gcd {a b : Nat} (ha : a < 9223372036854775808) (hb : b < 16777216) (σ : rS) : fX9_commonDivisor (jI a) (jI b) σ = some (jI (Nat.gcd a b), σ) := by
  have loop : ∀ (s a b fuel : Nat), a < 9223372036854775808 → b < 9223372036854775808 → s ≤ 128 → s < fuel → lX9_commonDivisor_9 fuel (jI a) (jI b) (nI (128 - s)) σ = some (jI (eu s a b), σ) := by
    intro s
    induction s with
    | zero =>
      intro a b fuel ha hb hs hfu
      obtain ⟨fu, rfl⟩ : ∃ fu, fuel = fu + 1 := ⟨fuel - 1, by omega⟩
      have c : (128 : Int32) ≤ nI (128 - 0) := (kle (a := 128) (by omega) (by omega)).mpr (by omega)
      rw [lX9_commonDivisor_9, if_pos c]
      rfl
    | succ s ih =>
      intro a b fuel ha hb hs hfu
      obtain ⟨fu, rfl⟩ : ∃ fu, fuel = fu + 1 := ⟨fuel - 1, by omega⟩
      have c : ¬ (128 : Int32) ≤ nI (128 - (s + 1)) := fun z => by have := (kle (a := 128) (by omega) (by omega)).mp z; omega
      rw [lX9_commonDivisor_9, if_neg c, eu]
      simp only [j_cmp hb, j_ne hb]
      by_cases z : b = 0
      · rw [if_pos z, if_pos z]
        rfl
      · rw [if_neg z, if_neg z, if_pos z, vJ_d, vI_d, j_mod ha hb z, k1, show 128 - (s + 1) + 1 = 128 - s by omega]
        have := Nat.mod_lt a (show 0 < b by omega)
        exact ih b (a % b) fu hb (by omega) (by omega) (by omega)
  have := loop 128 a b 1000 ha (by omega) (by omega) (by omega)
  rw [eu_gcd 24 128 a b hb (by omega)] at this
  exact this
theorem sg_le (x : Int64) : (0 ≤ lg_cmp x 0) = (0 ≤ x.toInt) := by rw [l_cmp, sgI_q]
theorem l_neg {a : Int64} (h1 : -9223372036854775807 ≤ a.toInt) : (-a).toInt = -a.toInt := by
  rw [Int64.toInt_neg]
  have := Int64.toInt_lt a
  exact bm64 (by omega) (by omega)
/-- the model tells a level -/
theorem m_tell {u l : Int64} (hu : -9223372036854775807 ≤ u.toInt) (hl : l.toInt.natAbs < 16777216) (hl0 : l.toInt ≠ 0) (σ : rS) : ∃ U V : Int64, fX12_tell u l σ = some ((), uL (uL σ 43 29 U) 43 30 V) ∧ U.toInt = (if 0 ≤ l.toInt then u.toInt else -u.toInt).tdiv (Nat.gcd u.toInt.natAbs l.toInt.natAbs) ∧ V.toInt = ((l.toInt.natAbs / Nat.gcd u.toInt.natAbs l.toInt.natAbs : Nat) : Int) := by
  have hu2 := Int64.toInt_lt u
  generalize hG : Nat.gcd u.toInt.natAbs l.toInt.natAbs = G
  have Gd : G ∣ l.toInt.natAbs := hG ▸ Nat.gcd_dvd_right _ _
  have G0 : 0 < G := by
    have : 0 < Nat.gcd u.toInt.natAbs l.toInt.natAbs := Nat.gcd_pos_of_pos_right _ (by omega)
    omega
  have Gle : G ≤ l.toInt.natAbs := Nat.le_of_dvd (by omega) Gd
  have loop : ∀ (s a b fuel : Nat), a < 9223372036854775808 → b < 9223372036854775808 → b < 2 ^ s → 2 * s + 1 < fuel → lX12_tell_28 fuel u l (jI a) (jI b) σ = (if 0 ≤ l.toInt then jX12_tell_67 u l (jI (Nat.gcd a b)) σ else jX12_tell_67 u l (-(jI (Nat.gcd a b))) σ) := by
    have gen : ∀ (t a b fuel : Nat), a < 9223372036854775808 → b < 9223372036854775808 → eu t a b = Nat.gcd a b → t < fuel → (∀ t', t' < t → True) → (t = 0 → b = 0) → (eu t a b = Nat.gcd a b → True) → True := fun _ _ _ _ _ _ _ _ _ _ _ => trivial
    intro s
    induction s with
    | zero =>
      intro a b fuel ha hb hbs hfu
      obtain ⟨fu, rfl⟩ : ∃ fu, fuel = fu + 1 := ⟨fuel - 1, by omega⟩
      have : b = 0 := by omega
      subst this
      rw [lX12_tell_28]
      simp only [j_cmp hb, sg_le]
      rw [if_pos trivial, Nat.gcd_zero_right]
    | succ s ih =>
      intro a b fuel ha hb hbs hfu
      obtain ⟨fu, rfl⟩ : ∃ fu, fuel = fu + 1 + 1 := ⟨fuel - 2, by omega⟩
      have P : 2 ^ (s + 1) = 2 ^ s + 2 ^ s := by rw [Nat.pow_succ]; omega
      rw [lX12_tell_28]
      simp only [j_cmp hb, j_ne hb, sg_le]
      by_cases c : b = 0
      · rw [if_pos c]
        subst c
        rw [Nat.gcd_zero_right]
      · have e1 : Nat.gcd a b = Nat.gcd b (a % b) := by rw [Nat.gcd_comm, Nat.gcd_rec, Nat.gcd_comm]
        have r1 : a % b < b := Nat.mod_lt _ (by omega)
        rw [if_neg c, if_pos c, vJ_d, j_mod ha hb c, e1]
        by_cases d : a % b = 0
        · rw [d, lX12_tell_28]
          simp only [j_cmp (show 0 < 9223372036854775808 by omega), sg_le]
          rw [if_pos trivial, Nat.gcd_zero_right]
        · have e2 : Nat.gcd b (a % b) = Nat.gcd (a % b) (b % (a % b)) := by rw [Nat.gcd_comm, Nat.gcd_rec, Nat.gcd_comm]
          have r2 : b % (a % b) < a % b := Nat.mod_lt _ (by omega)
          have r3 : b % (a % b) + (a % b) ≤ b := by
            have h1 := Nat.div_add_mod b (a % b)
            have h2 : 1 ≤ b / (a % b) := (Nat.one_le_div_iff (by omega)).mpr (by omega)
            have h3 := Nat.mul_le_mul_left (a % b) h2
            omega
          rw [lX12_tell_28]
          simp only [j_cmp (show a % b < 9223372036854775808 by omega), j_ne (show a % b < 9223372036854775808 by omega)]
          rw [if_neg d, if_pos d, vJ_d, j_mod hb (by omega) d, e2]
          exact ih (a % b) (b % (a % b)) fu (by omega) (by omega) (by omega) (by omega)
  have ua : (if 0 ≤ lg_cmp u 0 then jX12_tell_12 u l u σ else jX12_tell_12 u l (-u) σ) = jX12_tell_12 u l (jI u.toInt.natAbs) σ := by
    simp only [sg_le]
    by_cases z : 0 ≤ u.toInt
    · rw [if_pos z]
      congr 1
      apply l_eq
      rw [ji (by omega)]
      omega
    · rw [if_neg z]
      congr 1
      apply l_eq
      rw [l_neg hu, ji (by omega)]
      omega
  have la : (if 0 ≤ lg_cmp l 0 then jX12_tell_26 u l (jI u.toInt.natAbs) l σ else jX12_tell_26 u l (jI u.toInt.natAbs) (-l) σ) = lX12_tell_28 1000 u l (jI u.toInt.natAbs) (jI l.toInt.natAbs) σ := by
    simp only [sg_le]
    unfold jX12_tell_26
    by_cases z : 0 ≤ l.toInt
    · rw [if_pos z]
      congr 1
      apply l_eq
      rw [ji (by omega)]
      omega
    · rw [if_neg z]
      congr 1
      apply l_eq
      rw [l_neg (by omega), ji (by omega)]
      omega
  have G63 : G < 9223372036854775808 := by omega
  have all : fX12_tell u l σ = (if 0 ≤ l.toInt then jX12_tell_67 u l (jI G) σ else jX12_tell_67 u l (-(jI G)) σ) := by
    unfold fX12_tell
    rw [ua]
    unfold jX12_tell_12
    rw [la, loop 24 _ _ 1000 (by omega) (by omega) (by omega) (by omega), hG]
  rw [all]
  have fin : ∀ s : Int64, s ≠ 0 → jX12_tell_67 u l s σ = some ((), uL (uL σ 43 29 (u / s)) 43 30 (l / s)) := fun s hs => by
    unfold jX12_tell_67
    rw [if_pos hs, vS_d, if_pos hs, vS_d]
  obtain ⟨Q, hQ⟩ := Gd
  have QG : l.toInt.natAbs / G = Q := by rw [hQ]; exact Nat.mul_div_cancel_left Q G0
  by_cases z : 0 ≤ l.toInt
  · rw [if_pos z, if_pos z, fin (jI G) (by rw [Ne, j_ne G63]; omega)]
    refine ⟨_, _, rfl, ?_, ?_⟩
    · rw [l_div (by rw [ji G63]; omega), ji G63]
    · rw [l_div (by rw [ji G63]; omega), ji G63, QG, Int.tdiv_eq_ediv_of_nonneg z]
      have : l.toInt = (G : Int) * (Q : Int) := by rw [← Int.natCast_mul, ← hQ]; omega
      rw [this, Int.mul_ediv_cancel_left _ (by omega)]
  · have n1 : (-(jI G)).toInt = -(G : Int) := by rw [l_neg (by rw [ji G63]; omega), ji G63]
    have nz : -(jI G) ≠ 0 := fun w => by
      have : (-(jI G)).toInt = (0 : Int64).toInt := by rw [w]
      rw [n1] at this
      have z0 : (0 : Int64).toInt = 0 := rfl
      omega
    rw [if_neg z, if_neg z, fin _ nz]
    by_cases g1 : G = 1
    · -- divisor -1: no overflow
      have hm : (-(jI G)) = -1 := by rw [g1]; rfl
      refine ⟨_, _, rfl, ?_, ?_⟩
      · rw [Int64.toInt_div, n1, g1]
        rw [show (-((1 : Nat) : Int)) = -1 from rfl, Int.tdiv_neg, Int.tdiv_one]
        rw [show ((1 : Nat) : Int) = 1 from rfl, Int.tdiv_one]
        exact bm64 (by omega) (by omega)
      · rw [Int64.toInt_div, n1, g1]
        rw [show (-((1 : Nat) : Int)) = -1 from rfl, Int.tdiv_neg, Int.tdiv_one, Nat.div_one]
        rw [show (l.toInt.natAbs : Int) = -l.toInt by omega]
        exact bm64 (by omega) (by omega)
    · refine ⟨_, _, rfl, ?_, ?_⟩
      · rw [l_div (by rw [n1]; omega), n1, Int.tdiv_neg, Int.neg_tdiv]
      · rw [l_div (by rw [n1]; omega), n1, QG, Int.tdiv_neg]
        have e : l.toInt = -((G : Int) * (Q : Int)) := by rw [← Int.natCast_mul, ← hQ]; omega
        rw [e, Int.neg_tdiv, Int.mul_tdiv_cancel_left _ (by omega)]
        omega
