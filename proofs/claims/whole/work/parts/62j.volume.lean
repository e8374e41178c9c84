/-! volume, loops. -/
def bxB (p : Nat → zP) (x0 y0 x1 y1 : Int32) (b : Nat) : Bool := decide (x0.toInt ≤ (p b).1 ∧ (p b).1 ≤ x1.toInt) && decide (y0.toInt ≤ (p b).2 ∧ (p b).2 ≤ y1.toInt)
def bxT (p : Nat → zP) (x0 y0 x1 y1 : Int32) (t : Nat × Nat × Nat) : Bool := bxB p x0 y0 x1 y1 t.1 && (bxB p x0 y0 x1 y1 t.2.1 && bxB p x0 y0 x1 y1 t.2.2)
def vlT (τ : rS) (f : Nat → Option Nat) (kd : Nat → Bool) (q nL : Nat) (x0 y0 x1 y1 : Int32) (t : Nat × Nat × Nat) : Int64 := if bxT (wP τ) x0 y0 x1 y1 t = true then smV (trm τ f kd q t) nL 0 else 0
def smL (g : (Nat × Nat × Nat) → Int64) : List (Nat × Nat × Nat) → Int64
  | [] => 0
  | t :: R => g t + smL g R
section Vol2
variable {σ ρ τ : rS} {bk : Nat × Nat → Bool} {E : List (Nat × Nat)} {T : List (Nat × Nat × Nat)} {f : Nat → Option Nat} {L : List Nat}
theorem c_box (hB : VB σ) (ag : agT σ τ) (hv : VB τ) (hT : isTr σ (wP τ) T) (hl : T.length ≤ 27) {k : Nat} {t : Nat × Nat × Nat} (ht : T[k]? = some t) (hm : t.1 < wn τ ∧ t.2.1 < wn τ ∧ t.2.2 < wn τ) (x0 y0 x1 y1 : Int32) : fX11_isInBox (nI k) x0 y0 x1 y1 σ = some (bI (bxT (wP τ) x0 y0 x1 y1 t), σ) := by
  have h16 := hv.2.1
  obtain ⟨c0, c1, c2⟩ := c_corner (j := 0) (wP τ) hT hl ht
  obtain ⟨m1, m2, m3⟩ := hm
  have st : ∀ (b : Nat), b < wn τ → ∀ (fu : Nat) (w : Int32), ¬ 3 ≤ w → fX6_cornerOf (nI k) w σ = some (nI b, σ) → lX11_isInBox_3 (fu + 1) (nI k) x0 y0 x1 y1 w σ = (if bxB (wP τ) x0 y0 x1 y1 b = true then lX11_isInBox_3 fu (nI k) x0 y0 x1 y1 (w + 1) σ else some (0, σ)) := fun b hb fu w hw hc => by
    have e : wP σ b = wP τ b := ag.P hb
    have ex : (σ.1 (80 + 4 * b + 1) 0).toInt = (wP τ b).1 := by rw [← e]; rfl
    have ey : (σ.1 (80 + 4 * b + 1) 1).toInt = (wP τ b).2 := by rw [← e]; rfl
    rw [lX11_isInBox_3, if_neg hw, hc, Option.bind_some]
    unfold jX11_isInBox_60
    simp only [kinB (show b < 2147483648 by omega), decide_eq_true (show b < 16 by omega), if_true, kc (show b < 2147483648 by omega), if_pos (bo_ok (show b < 16 by omega)), if_pos (pl_ok (show b < 16 by omega)), c_from, Option.bind_some, bI_0, vI_d]
    unfold bxB okB
    rw [ex, ey]
    cases decide (x0.toInt ≤ (wP τ b).1 ∧ (wP τ b).1 ≤ x1.toInt) <;> cases decide (y0.toInt ≤ (wP τ b).2 ∧ (wP τ b).2 ≤ y1.toInt) <;> rfl
  unfold fX11_isInBox bxT
  show lX11_isInBox_3 (996 + 1 + 1 + 1 + 1) _ _ _ _ _ _ _ = _
  rw [st t.1 m1 (996 + 1 + 1 + 1) 0 (by decide) c0]
  show (if _ then lX11_isInBox_3 (996 + 1 + 1 + 1) (nI k) x0 y0 x1 y1 1 σ else _) = _
  rw [st t.2.1 m2 (996 + 1 + 1) 1 (by decide) c1]
  show (if _ then (if _ then lX11_isInBox_3 (996 + 1 + 1) (nI k) x0 y0 x1 y1 2 σ else _) else _) = _
  rw [st t.2.2 m3 (996 + 1) 2 (by decide) c2]
  show (if _ then (if _ then (if _ then lX11_isInBox_3 (996 + 1) (nI k) x0 y0 x1 y1 3 σ else _) else _) else _) = _
  rw [lX11_isInBox_3, if_pos (show (3 : Int32) ≤ 3 by decide)]
  cases bxB (wP τ) x0 y0 x1 y1 t.1 <;> cases bxB (wP τ) x0 y0 x1 y1 t.2.1 <;> cases bxB (wP τ) x0 y0 x1 y1 t.2.2 <;> rfl
theorem j0 : (0 : Int64) = jI 0 := rfl
theorem c_volIn (hv : VB τ) (q3 : PU τ bk E T f L) (q4 : CN σ τ bk E T f L) {q : Nat} (hq : q ≤ 100) (kd : Int32) {k : Nat} {t : Nat × Nat × Nat} (ht : T[k]? = some t) : fX0_volumeIn (nI k) kd (nI q) σ = some (smV (trm τ f (kdB τ L kd) q t) L.length 0, σ) := by
  have h16 := hv.2.1
  have l27 := q3.T27 hv
  have l192 := q3.L192 hv
  have kl := (List.getElem?_eq_some_iff.mp ht).1
  obtain ⟨c0, c1, c2⟩ := c_corner (j := 0) (wP τ) q4.2.1 l27 ht
  have tin := List.mem_of_getElem? ht
  obtain ⟨m1, m2, m3, _⟩ := q3.tri t tin
  have ord : t.1 < t.2.1 ∧ t.2.1 < t.2.2 := by
    have := tin
    rw [q3.2.1] at this
    have := taL_m (by omega) this
    exact ⟨this.2.1, this.2.2.1⟩
  have a14 := (q4.2.1.2 k t ht).2.2.2
  have area8 : (tz (wP τ t.1) (wP τ t.2.1) (wP τ t.2.2)).natAbs ≤ 8000000 := by
    have B : -8000000 ≤ tz (wP τ t.1) (wP τ t.2.1) (wP τ t.2.2) ∧ tz (wP τ t.1) (wP τ t.2.1) (wP τ t.2.2) ≤ 8000000 := tzB (wP_ok hv m1).2 (wP_ok hv m2).2 (wP_ok hv m3).2
    omega
  have P16 : ∀ b, b < 16 → 2 ^ b < 65536 := fun b hb => Nat.pow_lt_pow_right (a := 2) (by omega) hb
  have p1 := P16 t.1 (by omega)
  have p2 := P16 t.2.1 (by omega)
  have p3 := P16 t.2.2 (by omega)
  have o12 : 2 ^ t.1 ||| 2 ^ t.2.1 < 65536 := Nat.or_lt_two_pow (n := 16) p1 p2
  have o123 : 2 ^ t.1 ||| 2 ^ t.2.1 ||| 2 ^ t.2.2 < 65536 := Nat.or_lt_two_pow (n := 16) o12 p3
  have loop : ∀ (r c fuel : Nat) (v : Int64), c + r = L.length → r < fuel → lX0_volumeIn_38 fuel (nI k) kd (nI q) (nI (2 ^ t.1 ||| 2 ^ t.2.1 ||| 2 ^ t.2.2)) v (nI c) σ = some (v + smV (trm τ f (kdB τ L kd) q t) r c, σ) := by
    intro r
    induction r with
    | zero =>
      intro c fuel v hc hfu
      obtain ⟨fu, rfl⟩ : ∃ fu, fuel = fu + 1 := ⟨fuel - 1, by omega⟩
      rw [lX0_volumeIn_38, q4.2.2.2.2.2.1, if_pos ((kle (by omega) (by omega)).mpr (by omega)), smV, Int64.add_zero]
    | succ r ih =>
      intro c fuel v hc hfu
      obtain ⟨fu, rfl⟩ : ∃ fu, fuel = fu + 1 := ⟨fuel - 1, by omega⟩
      obtain ⟨s, hs⟩ : ∃ s, L[c]? = some s := ⟨_, List.getElem?_eq_getElem (by omega)⟩
      obtain ⟨b1, b2, b3, b4⟩ := q4.2.2.2.2.2.2 c s hs
      have e27 : σ.2.2.1 27 c = wk τ (L.getD c 0 / 12) (L.getD c 0 % 12) := by rw [b1, getD_of hs]
      obtain ⟨m, mm1, mm2, mm3⟩ := msk3 b4 ord.1 ord.2 (by omega)
      have al : m &&& (2 ^ t.1 ||| 2 ^ t.2.1 ||| 2 ^ t.2.2) ≤ m := Nat.and_le_left
      have c3 := cnT_le f c t
      have ct := c_thickT hv (q3.ok hv) q4.2.2.2.2.1 q4.2.2.2.1 q4.2.1 l27 (show c < 192 by omega) ht ⟨m1, m2, m3⟩
      rw [lX0_volumeIn_38, q4.2.2.2.2.2.1, if_neg (by rw [kle (by omega) (by omega)]; omega), kinB (by omega), decide_eq_true (show c < 192 by omega), if_pos rfl, kc (by omega), mm1, k_and (by omega) (by omega), vI_d, if_pos rfl, e27, smV]
      unfold jX0_volumeIn_111
      simp only [vI_d, k1]
      have go := fun w => ih (c + 1) fu w (by omega) (by omega)
      unfold trm kdB
      unfold trm kdB at go
      simp only [decide_eq_true_eq] at go ⊢
      by_cases z : wk τ (L.getD c 0 / 12) (L.getD c 0 % 12) = kd
      · rw [if_pos z, if_pos z]
        have x0 : (nI (m &&& (2 ^ t.1 ||| 2 ^ t.2.1 ||| 2 ^ t.2.2)) = 0) = (m &&& (2 ^ t.1 ||| 2 ^ t.2.1 ||| 2 ^ t.2.2) = 0) := propext (keq (b := 0) (by omega) (by omega))
        simp only [x0]
        by_cases y : m &&& (2 ^ t.1 ||| 2 ^ t.2.1 ||| 2 ^ t.2.2) = 0
        · rw [if_pos y]
          have cz : cnT f c t = 0 := by
            rw [← mm3, y]
            decide
          have sz : shN (cnT f c t) q = 0 := by rw [cz]; rfl
          rw [sz, jmul, jmul, Nat.mul_zero, Nat.zero_mul, ← j0, Int64.zero_add]
          exact go v
        · rw [if_neg y, c_bits (by omega), gB_p (by omega), mm3, Option.bind_some]
          dsimp only
          rw [c_share c3 hq, Option.bind_some, vJ_d, kinB (by omega), decide_eq_true (show k < 27 by omega), if_pos rfl]
          dsimp only
          rw [ct, Option.bind_some, kc (by omega), a14, j_nI (by omega), vJ_d]
          dsimp only
          rw [go, Int64.add_assoc]
      · rw [if_neg z, if_neg z, Int64.zero_add]
        exact go v
  unfold fX0_volumeIn
  show lX0_volumeIn_6 (996 + 1 + 1 + 1 + 1) (nI k) kd (nI q) 0 0 σ = _
  have or0 : (0 : Int32) ||| (1 <<< (nI t.1 &&& 31)) = nI (2 ^ t.1) := by
    rw [k_bit _ (by omega)]
    show nI 0 ||| nI (2 ^ t.1) = _
    rw [k_or (by omega) (by omega), Nat.zero_or]
  have or1 : nI (2 ^ t.1) ||| (1 <<< (nI t.2.1 &&& 31)) = nI (2 ^ t.1 ||| 2 ^ t.2.1) := by
    rw [k_bit _ (by omega), k_or (by omega) (by omega)]
  have or2 : nI (2 ^ t.1 ||| 2 ^ t.2.1) ||| (1 <<< (nI t.2.2 &&& 31)) = nI (2 ^ t.1 ||| 2 ^ t.2.1 ||| 2 ^ t.2.2) := by
    rw [k_bit _ (by omega), k_or (by omega) (by omega)]
  rw [lX0_volumeIn_6, if_neg (by decide), c0, Option.bind_some, vI_d, vI_d]
  dsimp only
  rw [or0]
  show lX0_volumeIn_6 (996 + 1 + 1 + 1) (nI k) kd (nI q) (nI (2 ^ t.1)) 1 σ = _
  rw [lX0_volumeIn_6, if_neg (by decide), c1, Option.bind_some, vI_d, vI_d]
  dsimp only
  rw [or1]
  show lX0_volumeIn_6 (996 + 1 + 1) (nI k) kd (nI q) (nI (2 ^ t.1 ||| 2 ^ t.2.1)) 2 σ = _
  rw [lX0_volumeIn_6, if_neg (by decide), c2, Option.bind_some, vI_d, vI_d]
  dsimp only
  rw [or2]
  show lX0_volumeIn_6 (996 + 1) (nI k) kd (nI q) (nI (2 ^ t.1 ||| 2 ^ t.2.1 ||| 2 ^ t.2.2)) 3 σ = _
  rw [lX0_volumeIn_6, if_pos (by decide)]
  have := loop L.length 0 1000 0 (by omega) (by omega)
  rw [Int64.zero_add] at this
  exact this
theorem c_vol (hB : VB σ) (ag : agT σ τ) (hv : VB τ) (q3 : PU τ bk E T f L) (q4 : CN σ τ bk E T f L) {q : Nat} (hq : q ≤ 100) (hl10 : σ.1 0 10 = nI q) (kd x0 y0 x1 y1 : Int32) : ∀ (r k fuel : Nat) (v : Int64), k + r = T.length → r < fuel → lX11_volume_17 fuel kd x0 y0 x1 y1 v (nI k) σ = some (.ok (v + smL (vlT τ f (kdB τ L kd) q L.length x0 y0 x1 y1) (T.drop k)), σ) := by
  have l27 := q3.T27 hv
  intro r
  induction r with
  | zero =>
    intro k fuel v hk hfu
    obtain ⟨fu, rfl⟩ : ∃ fu, fuel = fu + 1 := ⟨fuel - 1, by omega⟩
    rw [lX11_volume_17, q4.2.1.1, if_pos ((kle (by omega) (by omega)).mpr (by omega)), List.drop_eq_nil_of_le (by omega), smL, Int64.add_zero]
  | succ r ih =>
    intro k fuel v hk hfu
    obtain ⟨fu, rfl⟩ : ∃ fu, fuel = fu + 1 := ⟨fuel - 1, by omega⟩
    obtain ⟨t, ht⟩ : ∃ t, T[k]? = some t := ⟨_, List.getElem?_eq_getElem (by omega)⟩
    obtain ⟨m1, m2, m3, _⟩ := q3.tri t (List.mem_of_getElem? ht)
    rw [lX11_volume_17, q4.2.1.1, if_neg (by rw [kle (by omega) (by omega)]; omega), c_box hB ag hv q4.2.1 l27 ht ⟨m1, m2, m3⟩, Option.bind_some, drop_c ht, smL]
    unfold jX11_volume_67
    simp only [bI_0, vI_d, k1]
    unfold vlT
    cases bxT (wP τ) x0 y0 x1 y1 t with
    | false =>
      rw [if_pos rfl, if_neg (by simp), Int64.zero_add]
      exact ih (k + 1) fu v (by omega) (by omega)
    | true =>
      rw [if_neg (by simp), if_pos rfl, hl10, c_volIn hv q3 q4 hq kd ht, Option.bind_some, vJ_d]
      dsimp only
      have := ih (k + 1) fu (v + smV (trm τ f (kdB τ L kd) q t) L.length 0) (by omega) (by omega)
      rw [this, Int64.add_assoc]
      rfl
end Vol2
