/-! TURNS: the tests of places, class and model, over whole numbers. -/
abbrev zP : Type := Int × Int
def tz (a b p : zP) : Int := (b.1 - a.1) * (p.2 - a.2) - (b.2 - a.2) * (p.1 - a.1)
def btw (v a b : Int) : Bool := decide ((a ≤ v ∧ v ≤ b) ∨ (b ≤ v ∧ v ≤ a))
def onZ (a b p : zP) : Bool := decide (tz a b p = 0) && (btw p.1 a.1 b.1 && btw p.2 a.2 b.2)
def apZ (s t : Int) : Bool := decide ((s < 0 ∧ 0 < t) ∨ (0 < s ∧ t < 0))
def meetZ (a b c d : zP) : Bool := (onZ a b c || (onZ a b d || (onZ c d a || onZ c d b))) || (apZ (tz a b c) (tz a b d) && apZ (tz c d a) (tz c d b))
def inZ (a b c p : zP) : Bool := decide ((0 ≤ tz a b p ∧ 0 ≤ tz b c p ∧ 0 ≤ tz c a p) ∨ (tz a b p ≤ 0 ∧ tz b c p ≤ 0 ∧ tz c a p ≤ 0))
theorem meetZ_sy (a b c d : zP) : meetZ a b c d = meetZ c d a b := by
  unfold meetZ
  cases onZ a b c <;> cases onZ a b d <;> cases onZ c d a <;> cases onZ c d b <;> cases apZ (tz a b c) (tz a b d) <;> cases apZ (tz c d a) (tz c d b) <;> rfl
def okZ (a : zP) : Prop := (-1000 ≤ a.1 ∧ a.1 ≤ 1000) ∧ (-1000 ≤ a.2 ∧ a.2 ≤ 1000)
theorem tzB {a b p : zP} (ha : okZ a) (hb : okZ b) (hp : okZ p) : -8000000 ≤ tz a b p ∧ tz a b p ≤ 8000000 := by
  obtain ⟨⟨a1, a2⟩, a3, a4⟩ := ha
  obtain ⟨⟨b1, b2⟩, b3, b4⟩ := hb
  obtain ⟨⟨p1, p2⟩, p3, p4⟩ := hp
  have x := mulB (a := b.1 - a.1) (b := p.2 - a.2) (A := 2000) (B := 2000) (by omega) (by omega)
  have y := mulB (a := b.2 - a.2) (b := p.1 - a.1) (A := 2000) (B := 2000) (by omega) (by omega)
  unfold tz
  omega
/-- a place of the class -/
def pz (σ : rS) (n : Nat) : zP := ((σ.1 n 0).toInt, (σ.1 n 1).toInt)
def okQ (σ : rS) (n : Nat) : Prop := isPl n ∧ okZ (pz σ n)
def zp (x y : Int32) : zP := (x.toInt, y.toInt)
theorem zp_ok {x y : Int32} (hx : okR (-1000) 1000 x) (hy : okR (-1000) 1000 y) : okZ (zp x y) := ⟨hx, hy⟩
def turnI (σ : rS) (a b p : Nat) : Int32 := ((((σ.1 b 0) - (σ.1 a 0)) * ((σ.1 p 1) - (σ.1 a 1))) - (((σ.1 b 1) - (σ.1 a 1)) * ((σ.1 p 0) - (σ.1 a 0))))
theorem turnI_i {σ : rS} {a b p : Nat} (ha : okQ σ a) (hb : okQ σ b) (hp : okQ σ p) : (turnI σ a b p).toInt = tz (pz σ a) (pz σ b) (pz σ p) := by
  have B := tzB ha.2 hb.2 hp.2
  obtain ⟨_, ⟨a1, a2⟩, a3, a4⟩ := ha
  obtain ⟨_, ⟨b1, b2⟩, b3, b4⟩ := hb
  obtain ⟨_, ⟨p1, p2⟩, p3, p4⟩ := hp
  unfold pz at a1 a2 a3 a4 b1 b2 b3 b4 p1 p2 p3 p4
  dsimp only at a1 a2 a3 a4 b1 b2 b3 b4 p1 p2 p3 p4
  have e1 : ((σ.1 b 0) - (σ.1 a 0)).toInt = (σ.1 b 0).toInt - (σ.1 a 0).toInt := i_sub (by omega) (by omega)
  have e2 : ((σ.1 p 1) - (σ.1 a 1)).toInt = (σ.1 p 1).toInt - (σ.1 a 1).toInt := i_sub (by omega) (by omega)
  have e3 : ((σ.1 b 1) - (σ.1 a 1)).toInt = (σ.1 b 1).toInt - (σ.1 a 1).toInt := i_sub (by omega) (by omega)
  have e4 : ((σ.1 p 0) - (σ.1 a 0)).toInt = (σ.1 p 0).toInt - (σ.1 a 0).toInt := i_sub (by omega) (by omega)
  have x := mulB (a := (σ.1 b 0).toInt - (σ.1 a 0).toInt) (b := (σ.1 p 1).toInt - (σ.1 a 1).toInt) (A := 2000) (B := 2000) (by omega) (by omega)
  have y := mulB (a := (σ.1 b 1).toInt - (σ.1 a 1).toInt) (b := (σ.1 p 0).toInt - (σ.1 a 0).toInt) (A := 2000) (B := 2000) (by omega) (by omega)
  have f1 : (((σ.1 b 0) - (σ.1 a 0)) * ((σ.1 p 1) - (σ.1 a 1))).toInt = ((σ.1 b 0).toInt - (σ.1 a 0).toInt) * ((σ.1 p 1).toInt - (σ.1 a 1).toInt) := by
    rw [i_mul, e1, e2] <;> rw [e1, e2] <;> omega
  have f2 : (((σ.1 b 1) - (σ.1 a 1)) * ((σ.1 p 0) - (σ.1 a 0))).toInt = ((σ.1 b 1).toInt - (σ.1 a 1).toInt) * ((σ.1 p 0).toInt - (σ.1 a 0).toInt) := by
    rw [i_mul, e3, e4] <;> rw [e3, e4] <;> omega
  unfold turnI tz pz
  dsimp only
  rw [i_sub, f1, f2] <;> rw [f1, f2] <;> omega
theorem c_turn {σ : rS} {a b p : Nat} (ha : isPl a) (hb : isPl b) (hp : isPl p) : fX7_turn a b p σ = some (turnI σ a b p, σ) := by
  unfold fX7_turn
  simp only [if_pos ha, if_pos hb, if_pos hp]
  rfl
theorem c_apart (s t : Int32) (σ : rS) : fX7_areApart s t σ = some (bI (apZ s.toInt t.toInt), σ) := by
  unfold fX7_areApart jX7_areApart_8 jX7_areApart_16 jX7_areApart_20 jX7_areApart_21 apZ
  simp only [i_lt, i_le]
  show (if 0 ≤ s.toInt then (if s.toInt ≤ 0 then _ else if 0 ≤ t.toInt then _ else _) else if 0 < t.toInt then _ else if s.toInt ≤ 0 then _ else if 0 ≤ t.toInt then _ else _) = _
  by_cases h1 : 0 ≤ s.toInt
  · rw [if_pos h1]
    by_cases h2 : s.toInt ≤ 0
    · rw [if_pos h2, decide_eq_false (by omega)]; rfl
    · rw [if_neg h2]
      by_cases h3 : 0 ≤ t.toInt
      · rw [if_pos h3, decide_eq_false (by omega)]; rfl
      · rw [if_neg h3, decide_eq_true (by omega)]; rfl
  · rw [if_neg h1]
    by_cases h2 : 0 < t.toInt
    · rw [if_pos h2, decide_eq_true (by omega)]; rfl
    · rw [if_neg h2, if_pos (by omega), decide_eq_false (by omega)]; rfl
theorem btw_c (v a b : Int32) : okB (if b < a then b else a).toInt (if a < b then b else a).toInt v = btw v.toInt a.toInt b.toInt := by
  unfold okB btw
  rw [decide_eq_decide]
  by_cases h1 : b < a
  · have h2 : ¬ a < b := by rw [i_lt] at h1 ⊢; omega
    rw [if_pos h1, if_neg h2]
    rw [i_lt] at h1
    omega
  · rw [if_neg h1]
    rw [i_lt] at h1
    by_cases h2 : a < b
    · rw [if_pos h2]
      rw [i_lt] at h2
      omega
    · rw [if_neg h2]
      rw [i_lt] at h2
      omega
theorem i0 (a : Int32) : (a = 0) = (a.toInt = 0) := by rw [i_eqi]; rfl
theorem c_onWay {σ : rS} {a b p : Nat} (ha : okQ σ a) (hb : okQ σ b) (hp : okQ σ p) : fX7_isOnWay a b p σ = some (bI (onZ (pz σ a) (pz σ b) (pz σ p)), σ) := by
  unfold fX7_isOnWay
  rw [c_turn ha.1 hb.1 hp.1]
  simp only [Option.bind_some, if_pos ha.1, if_pos hb.1, if_pos hp.1, i0, turnI_i ha hb hp, c_from, btw_c]
  simp only [← i0, bI_0]
  unfold onZ jX7_isOnWay_77 jX7_isOnWay_78
  show (if tz (pz σ a) (pz σ b) (pz σ p) = 0 then if btw (pz σ p).1 (pz σ a).1 (pz σ b).1 = false then _ else if btw (pz σ p).2 (pz σ a).2 (pz σ b).2 = false then _ else _ else _) = _
  by_cases h1 : tz (pz σ a) (pz σ b) (pz σ p) = 0
  · rw [if_pos h1, decide_eq_true h1]
    cases btw (pz σ p).1 (pz σ a).1 (pz σ b).1 <;> cases btw (pz σ p).2 (pz σ a).2 (pz σ b).2 <;> rfl
  · rw [if_neg h1, decide_eq_false h1]; rfl
theorem c_meet {σ : rS} {a b c d : Nat} (ha : okQ σ a) (hb : okQ σ b) (hc : okQ σ c) (hd : okQ σ d) : fX7_waysMeet a b c d σ = some (bI (meetZ (pz σ a) (pz σ b) (pz σ c) (pz σ d)), σ) := by
  unfold fX7_waysMeet jX7_waysMeet_38 jX7_waysMeet_74 jX7_waysMeet_79 meetZ
  simp only [c_turn ha.1 hb.1 hc.1, c_turn ha.1 hb.1 hd.1, c_turn hc.1 hd.1 ha.1, c_turn hc.1 hd.1 hb.1, Option.bind_some, c_apart, turnI_i ha hb hc, turnI_i ha hb hd, turnI_i hc hd ha, turnI_i hc hd hb, c_onWay ha hb hc, c_onWay ha hb hd, c_onWay hc hd ha, c_onWay hc hd hb, bI_0]
  cases apZ (tz (pz σ a) (pz σ b) (pz σ c)) (tz (pz σ a) (pz σ b) (pz σ d)) <;> cases apZ (tz (pz σ c) (pz σ d) (pz σ a)) (tz (pz σ c) (pz σ d) (pz σ b)) <;> cases onZ (pz σ a) (pz σ b) (pz σ c) <;> cases onZ (pz σ a) (pz σ b) (pz σ d) <;> cases onZ (pz σ c) (pz σ d) (pz σ a) <;> cases onZ (pz σ c) (pz σ d) (pz σ b) <;> rfl
theorem c_inTri {σ : rS} {a b c p : Nat} (ha : okQ σ a) (hb : okQ σ b) (hc : okQ σ c) (hp : okQ σ p) : fX7_isInTriangle a b c p σ = some (bI (inZ (pz σ a) (pz σ b) (pz σ c) (pz σ p)), σ) := by
  unfold fX7_isInTriangle jX7_isInTriangle_39 jX7_isInTriangle_54 jX7_isInTriangle_58 jX7_isInTriangle_59 inZ
  simp only [c_turn ha.1 hb.1 hp.1, c_turn hb.1 hc.1 hp.1, c_turn hc.1 ha.1 hp.1, Option.bind_some, vI_d, i_lt, i_le, turnI_i ha hb hp, turnI_i hb hc hp, turnI_i hc ha hp, true_or, or_true, if_true]
  generalize tz (pz σ a) (pz σ b) (pz σ p) = s
  generalize tz (pz σ b) (pz σ c) (pz σ p) = t
  generalize tz (pz σ c) (pz σ a) (pz σ p) = u
  show (if s < 0 then (if 0 < s then _ else if 0 < t then _ else if 0 < u then _ else _) else if t < 0 then (if 0 < s then _ else if 0 < t then _ else if 0 < u then _ else _) else if 0 ≤ u then _ else if 0 < s then _ else if 0 < t then _ else if 0 < u then _ else _) = _
  by_cases h : (0 ≤ s ∧ 0 ≤ t ∧ 0 ≤ u) ∨ (s ≤ 0 ∧ t ≤ 0 ∧ u ≤ 0)
  · rw [decide_eq_true h]
    repeat' split
    all_goals first | rfl | (exfalso; omega)
  · rw [decide_eq_false h]
    repeat' split
    all_goals first | rfl | (exfalso; omega)
/-- the model's tests -/
def sgI (z : Int) : Int32 := if 0 < z then 1 else if z < 0 then (-1) else 0
theorem bm64 {z : Int} (h1 : -9223372036854775808 ≤ z) (h2 : z < 9223372036854775808) : z.bmod (2 ^ 64) = z := by
  show Int.bmod z 18446744073709551616 = z
  unfold Int.bmod
  dsimp only
  split <;> omega
theorem l_add {a b : Int64} (h1 : -9223372036854775808 ≤ a.toInt + b.toInt) (h2 : a.toInt + b.toInt < 9223372036854775808) : (a + b).toInt = a.toInt + b.toInt := by rw [Int64.toInt_add]; exact bm64 h1 h2
theorem l_sub {a b : Int64} (h1 : -9223372036854775808 ≤ a.toInt - b.toInt) (h2 : a.toInt - b.toInt < 9223372036854775808) : (a - b).toInt = a.toInt - b.toInt := by rw [Int64.toInt_sub]; exact bm64 h1 h2
theorem l_mul {a b : Int64} (h1 : -9223372036854775808 ≤ a.toInt * b.toInt) (h2 : a.toInt * b.toInt < 9223372036854775808) : (a * b).toInt = a.toInt * b.toInt := by rw [Int64.toInt_mul]; exact bm64 h1 h2
theorem l_eqi {a b : Int64} : a = b ↔ a.toInt = b.toInt := Int64.toInt_inj.symm
theorem l_lt {a b : Int64} : a < b ↔ a.toInt < b.toInt := Int64.lt_iff_toInt_lt
theorem l_le {a b : Int64} : a ≤ b ↔ a.toInt ≤ b.toInt := Int64.le_iff_toInt_le
theorem l_i (a : Int32) : a.toInt64.toInt = a.toInt := Int32.toInt_toInt64 a
theorem l_cmp (x : Int64) : lg_cmp x 0 = sgI x.toInt := by
  unfold lg_cmp sgI
  have h1 : (x > 0) = (0 < x.toInt) := propext l_lt
  have h2 : (x = 0) = (x.toInt = 0) := propext l_eqi
  simp only [h1, h2]
  by_cases a : 0 < x.toInt
  · rw [if_pos a, if_pos a]
  · rw [if_neg a, if_neg a]
    by_cases b : x.toInt = 0
    · rw [if_pos b, if_neg (by omega)]
    · rw [if_neg b, if_pos (by omega)]
theorem sgI_i (z : Int) : (sgI z).toInt = if 0 < z then 1 else if z < 0 then -1 else 0 := by
  unfold sgI
  split
  · rfl
  · split <;> rfl
def crossL (ax ay bx by' px py : Int32) : Int64 := ((bx - ax).toInt64 * (py - ay).toInt64) - ((by' - ay).toInt64 * (px - ax).toInt64)
theorem crossL_i {ax ay bx by' px py : Int32} (ha : okZ (zp ax ay)) (hb : okZ (zp bx by')) (hp : okZ (zp px py)) : (crossL ax ay bx by' px py).toInt = tz (zp ax ay) (zp bx by') (zp px py) := by
  have B := tzB ha hb hp
  obtain ⟨⟨a1, a2⟩, a3, a4⟩ := ha
  obtain ⟨⟨b1, b2⟩, b3, b4⟩ := hb
  obtain ⟨⟨p1, p2⟩, p3, p4⟩ := hp
  unfold zp at a1 a2 a3 a4 b1 b2 b3 b4 p1 p2 p3 p4
  dsimp only at a1 a2 a3 a4 b1 b2 b3 b4 p1 p2 p3 p4
  have e1 : (bx - ax).toInt64.toInt = bx.toInt - ax.toInt := by rw [l_i]; exact i_sub (by omega) (by omega)
  have e2 : (py - ay).toInt64.toInt = py.toInt - ay.toInt := by rw [l_i]; exact i_sub (by omega) (by omega)
  have e3 : (by' - ay).toInt64.toInt = by'.toInt - ay.toInt := by rw [l_i]; exact i_sub (by omega) (by omega)
  have e4 : (px - ax).toInt64.toInt = px.toInt - ax.toInt := by rw [l_i]; exact i_sub (by omega) (by omega)
  have x := mulB (a := bx.toInt - ax.toInt) (b := py.toInt - ay.toInt) (A := 2000) (B := 2000) (by omega) (by omega)
  have y := mulB (a := by'.toInt - ay.toInt) (b := px.toInt - ax.toInt) (A := 2000) (B := 2000) (by omega) (by omega)
  have f1 : ((bx - ax).toInt64 * (py - ay).toInt64).toInt = (bx.toInt - ax.toInt) * (py.toInt - ay.toInt) := by
    rw [l_mul, e1, e2] <;> rw [e1, e2] <;> omega
  have f2 : ((by' - ay).toInt64 * (px - ax).toInt64).toInt = (by'.toInt - ay.toInt) * (px.toInt - ax.toInt) := by
    rw [l_mul, e3, e4] <;> rw [e3, e4] <;> omega
  unfold crossL tz zp
  dsimp only
  rw [l_sub, f1, f2] <;> rw [f1, f2] <;> omega
theorem m_side {ax ay bx by' px py : Int32} {σ : rS} (ha : okZ (zp ax ay)) (hb : okZ (zp bx by')) (hp : okZ (zp px py)) : fX12_side ax ay bx by' px py σ = some (sgI (tz (zp ax ay) (zp bx by') (zp px py)), σ) := by
  unfold fX12_side fX12_cross jX12_side_46
  simp only [Option.bind_some, vJ_d, l_cmp]
  have e := crossL_i ha hb hp
  unfold crossL at e
  rw [e]
  generalize tz (zp ax ay) (zp bx by') (zp px py) = z
  have h1 : (sgI z ≤ 0) = (z ≤ 0) := by
    rw [i_le, sgI_i]
    show (_ ≤ (0 : Int)) = _
    split <;> (try split) <;> simp <;> omega
  have h2 : ((0 : Int32) ≤ sgI z) = (0 ≤ z) := by
    rw [i_le, sgI_i]
    show ((0 : Int) ≤ _) = _
    split <;> (try split) <;> simp <;> omega
  simp only [h1, h2]
  unfold sgI
  by_cases a : z ≤ 0
  · rw [if_pos a, if_neg (show ¬ 0 < z by omega)]
    by_cases b : 0 ≤ z
    · rw [if_pos b, if_neg (by omega)]
    · rw [if_neg b, if_pos (by omega)]
  · rw [if_neg a, if_pos (by omega)]
theorem sgI_0 (z : Int) : (sgI z = 0) = (z = 0) := by
  rw [i0, sgI_i]
  split <;> (try split) <;> simp <;> omega
theorem sgI_n (z : Int) : (sgI z < 0) = (z < 0) := by
  rw [i_lt, sgI_i]
  show (_ < (0 : Int)) = _
  split <;> (try split) <;> simp <;> omega
theorem sgI_p (z : Int) : (0 < sgI z) = (0 < z) := by
  rw [i_lt, sgI_i]
  show ((0 : Int) < _) = _
  split <;> (try split) <;> simp <;> omega
theorem sgI_q (z : Int) : (0 ≤ sgI z) = (0 ≤ z) := by
  rw [i_le, sgI_i]
  show ((0 : Int) ≤ _) = _
  split <;> (try split) <;> simp <;> omega
theorem sgI_m (s t : Int) : (0 ≤ sgI s * sgI t) = (apZ s t = false) := by
  unfold sgI apZ
  rw [decide_eq_false_iff_not]
  apply propext
  split
  · split
    · exact ⟨fun _ => by omega, fun _ => by decide⟩
    · split
      · exact ⟨fun h => absurd h (by decide), fun h => by omega⟩
      · exact ⟨fun _ => by omega, fun _ => by decide⟩
  · split
    · split
      · exact ⟨fun h => absurd h (by decide), fun h => by omega⟩
      · split
        · exact ⟨fun _ => by omega, fun _ => by decide⟩
        · exact ⟨fun _ => by omega, fun _ => by decide⟩
    · split
      · exact ⟨fun _ => by omega, fun _ => by decide⟩
      · split
        · exact ⟨fun _ => by omega, fun _ => by decide⟩
        · exact ⟨fun _ => by omega, fun _ => by decide⟩
theorem m_btw (v a b : Int32) (σ : rS) : fX12_isBetween v a b σ = some (bI (btw v.toInt a.toInt b.toInt), σ) := by
  unfold fX12_isBetween jX12_isBetween_11 jX12_isBetween_25 jX12_isBetween_32 jX12_isBetween_33 btw
  simp only [i_lt, i_le, true_or, or_true, if_true]
  by_cases h : (a.toInt ≤ v.toInt ∧ v.toInt ≤ b.toInt) ∨ (b.toInt ≤ v.toInt ∧ v.toInt ≤ a.toInt)
  · rw [decide_eq_true h]
    repeat' split
    all_goals first | rfl | (exfalso; omega)
  · rw [decide_eq_false h]
    repeat' split
    all_goals first | rfl | (exfalso; omega)
theorem m_on {ax ay bx by' px py : Int32} {σ : rS} (ha : okZ (zp ax ay)) (hb : okZ (zp bx by')) (hp : okZ (zp px py)) : fX12_isOn ax ay bx by' px py σ = some (bI (onZ (zp ax ay) (zp bx by') (zp px py)), σ) := by
  unfold fX12_isOn jX12_isOn_38 jX12_isOn_39 onZ
  rw [m_side ha hb hp]
  simp only [Option.bind_some, m_btw, bI_0, sgI_0]
  by_cases h : tz (zp ax ay) (zp bx by') (zp px py) = 0
  · rw [if_pos h, decide_eq_true h]
    show (if btw (zp px py).1 (zp ax ay).1 (zp bx by').1 = false then _ else if btw (zp px py).2 (zp ax ay).2 (zp bx by').2 = false then _ else _) = _
    cases btw (zp px py).1 (zp ax ay).1 (zp bx by').1 <;> cases btw (zp px py).2 (zp ax ay).2 (zp bx by').2 <;> rfl
  · rw [if_neg h, decide_eq_false h]; rfl
theorem m_meet {ax ay bx by' cx cy dx dy : Int32} {σ : rS} (ha : okZ (zp ax ay)) (hb : okZ (zp bx by')) (hc : okZ (zp cx cy)) (hd : okZ (zp dx dy)) : fX12_meet ax ay bx by' cx cy dx dy σ = some (bI (meetZ (zp ax ay) (zp bx by') (zp cx cy) (zp dx dy)), σ) := by
  unfold fX12_meet jX12_meet_60 jX12_meet_65 jX12_meet_128 jX12_meet_132 jX12_meet_133 meetZ
  simp only [m_on ha hb hc, m_on ha hb hd, m_on hc hd ha, m_on hc hd hb, m_side ha hb hc, m_side ha hb hd, m_side hc hd ha, m_side hc hd hb, Option.bind_some, sgI_m, bI_0]
  cases apZ (tz (zp ax ay) (zp bx by') (zp cx cy)) (tz (zp ax ay) (zp bx by') (zp dx dy)) <;> cases apZ (tz (zp cx cy) (zp dx dy) (zp ax ay)) (tz (zp cx cy) (zp dx dy) (zp bx by')) <;> cases onZ (zp ax ay) (zp bx by') (zp cx cy) <;> cases onZ (zp ax ay) (zp bx by') (zp dx dy) <;> cases onZ (zp cx cy) (zp dx dy) (zp ax ay) <;> cases onZ (zp cx cy) (zp dx dy) (zp bx by') <;> rfl
/-- the places of the model -/
def qz (σ : rS) (k : Nat) : zP := zp (σ.2.2.1 44 k) (σ.2.2.1 45 k)
theorem m_has {a b c : Nat} {x y : Int32} {σ : rS} (ha : a < 16) (hb : b < 16) (hc : c < 16) (oa : okZ (qz σ a)) (ob : okZ (qz σ b)) (oc : okZ (qz σ c)) (op : okZ (zp x y)) : fX12_hasPlace (nI a) (nI b) (nI c) x y σ = some (bI (inZ (qz σ a) (qz σ b) (qz σ c) (zp x y)), σ) := by
  have ia : inB (nI a) 16 = true := by rw [kinB (by omega)]; exact decide_eq_true ha
  have ib : inB (nI b) 16 = true := by rw [kinB (by omega)]; exact decide_eq_true hb
  have ic : inB (nI c) 16 = true := by rw [kinB (by omega)]; exact decide_eq_true hc
  unfold qz at oa ob oc ⊢
  unfold fX12_hasPlace jX12_hasPlace_114 jX12_hasPlace_129 jX12_hasPlace_133 jX12_hasPlace_134 inZ
  simp only [ia, ib, ic, if_true, kc (show a < 2147483648 by omega), kc (show b < 2147483648 by omega), kc (show c < 2147483648 by omega), m_side oa ob op, m_side ob oc op, m_side oc oa op, Option.bind_some, vI_d, sgI_n, sgI_p, sgI_q, true_or, or_true]
  generalize tz (zp (σ.2.2.1 44 a) (σ.2.2.1 45 a)) (zp (σ.2.2.1 44 b) (σ.2.2.1 45 b)) (zp x y) = s
  generalize tz (zp (σ.2.2.1 44 b) (σ.2.2.1 45 b)) (zp (σ.2.2.1 44 c) (σ.2.2.1 45 c)) (zp x y) = t
  generalize tz (zp (σ.2.2.1 44 c) (σ.2.2.1 45 c)) (zp (σ.2.2.1 44 a) (σ.2.2.1 45 a)) (zp x y) = u
  by_cases h : (0 ≤ s ∧ 0 ≤ t ∧ 0 ≤ u) ∨ (s ≤ 0 ∧ t ≤ 0 ∧ u ≤ 0)
  · rw [decide_eq_true h]
    repeat' split
    all_goals first | rfl | (exfalso; omega)
  · rw [decide_eq_false h]
    repeat' split
    all_goals first | rfl | (exfalso; omega)
