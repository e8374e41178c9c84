/-! IS A WORD A LETTER OR A NUMBER: the class. -/
def isLW (u : Nat → Int32) (c : Nat) (S T : Nat → Nat) (i : Nat) (ch : Int32) : Bool := decide (i < c ∧ T i = S i + 1 ∧ u (S i) = ch)
def vl (u : Nat → Int32) : Nat → Nat → Nat → Option Nat
  | 0, _, a => some a
  | r + 1, p, a => if okB 48 57 (u p) = true then vl u r (p + 1) (10 * a + ((u p).toNatClampNeg - 48)) else none
def nmv (u : Nat → Int32) (s t : Nat) : Option Nat := if 1 ≤ t - s ∧ t - s ≤ 6 then vl u (t - s) s 0 else none
def numW (u : Nat → Int32) (c : Nat) (S T : Nat → Nat) (i : Nat) : Option Int32 := if i < c then (if u (S i) = 45 then (nmv u (S i + 1) (T i)).map (fun a => -(nI a)) else (nmv u (S i) (T i)).map nI) else none
def numR (u : Nat → Int32) (c : Nat) (S T : Nat → Nat) (lo hi : Int32) (i : Nat) : Option Int32 := match numW u c S T i with
  | none => none
  | some v => if okB lo.toInt hi.toInt v = true then some v else none
theorem numR_ok {u : Nat → Int32} {c : Nat} {S T : Nat → Nat} {lo hi : Int32} {i : Nat} {v : Int32} (h : numR u c S T lo hi i = some v) : i < c ∧ okR lo.toInt hi.toInt v := by
  unfold numR at h
  cases e : numW u c S T i with
  | none => rw [e] at h; cases h
  | some w =>
    rw [e] at h
    dsimp only at h
    by_cases z : okB lo.toInt hi.toInt w = true
    · rw [if_pos z] at h
      cases h
      refine ⟨?_, okB_t.mp z⟩
      unfold numW at e
      by_cases y : i < c
      · exact y
      · rw [if_neg y] at e; cases e
    · rw [if_neg z] at h; cases h
theorem vl_lt {u : Nat → Int32} : ∀ {r p a e b : Nat}, e + r = 6 → a + 1 ≤ 10 ^ e → vl u r p a = some b → b < 1000000
  | 0, p, a, e, b, h1, h2, h => by
    have : e = 6 := by omega
    subst this
    rw [vl] at h
    cases h
    omega
  | r + 1, p, a, e, b, h1, h2, h => by
    rw [vl] at h
    by_cases z : okB 48 57 (u p) = true
    · rw [if_pos z] at h
      have k := okB_t.mp z
      have := i_cl (a := u p) (by have := k.1; omega)
      have := k.2
      refine vl_lt (e := e + 1) (by omega) ?_ h
      rw [Nat.pow_succ]
      omega
    · rw [if_neg z] at h; cases h
theorem nmv_lt {u : Nat → Int32} {s t b : Nat} (h : nmv u s t = some b) : b < 1000000 := by
  unfold nmv at h
  by_cases z : 1 ≤ t - s ∧ t - s ≤ 6
  · rw [if_pos z] at h
    refine vl_lt (e := 6 - (t - s)) (by omega) ?_ h
    have := Nat.pow_pos (n := 6 - (t - s)) (show 0 < 10 by omega)
    omega
  · rw [if_neg z] at h; cases h
/-- the digit's share -/
theorem dg_i {a : Nat} {x : Int32} (ha : a ≤ 1000000) (hx : okR 48 57 x) : nI a * 10 + (x - 48) = nI (10 * a + (x.toNatClampNeg - 48)) ∧ (10 * nI a + x) - 48 = nI (10 * a + (x.toNatClampNeg - 48)) := by
  have e1 := i_nI (a := x) (by have := hx.1; omega)
  have c1 := i_cl (a := x) (by have := hx.1; omega)
  obtain ⟨h1, h2⟩ := hx
  generalize x.toNatClampNeg = d at e1 c1
  subst e1
  refine ⟨?_, ?_⟩
  · show nI a * nI 10 + (nI d - nI 48) = _
    rw [kmul, ksub (by omega), kadd]
    congr 1
    omega
  · show nI 10 * nI a + nI d - nI 48 = _
    rw [kmul, kadd, ksub (by omega)]
    congr 1
    omega
section Cn
variable {u : Nat → Int32} {L c : Nat} {S T : Nat → Nat}
theorem c_letter (h : WD u L c S T) {i : Nat} (hi : i ≤ c) {σ : rS} (hO : On u L S T σ i) (ch : Int32) : fX8_isLetter ch σ = some (bI (isLW u c S T i ch), σ) := by
  obtain ⟨hT, h2, h3, h4⟩ := hO
  obtain ⟨a1, a2, a3, -⟩ := h.st hi
  have hL := h.1
  unfold fX8_isLetter jX8_isLetter_30 jX8_isLetter_31 isLW
  have e1 : (nI (T i - S i) = 1) = (T i - S i = 1) := propext (keq (b := 1) (by omega) (by omega))
  rw [h2, h3, ksub a2]
  simp only [e1]
  by_cases z : T i - S i = 1
  · have ic : i < c := by
      by_cases y : i < c
      · exact y
      · have := h.2.2 i (by omega); omega
    rw [if_pos z, kinB (by omega), decide_eq_true (by omega), if_pos rfl, kc (by omega), hT.2 (S i) (by omega)]
    by_cases y : u (S i) = ch
    · rw [if_pos y, if_pos (by decide), decide_eq_true ⟨ic, by omega, y⟩]; rfl
    · rw [if_neg y, if_pos (by decide), decide_eq_false (fun q => y q.2.2)]; rfl
  · rw [if_neg z, if_pos (by decide), decide_eq_false (fun q => z (by omega))]; rfl
theorem c_140 (lo hi v : Int32) (σ : rS) : jX8_isNumber_140 lo hi v σ = some (bI (okB lo.toInt hi.toInt v), uI σ 38 5 v) := by
  unfold jX8_isNumber_140
  rw [vS_d, uI_eq, c_from, Option.bind_some]
  dsimp only
  rw [if_pos (by rw [bI_01]; trivial)]
theorem c_75 {t : Nat} (hL : L ≤ 600) (ht : t ≤ L) {σ : rS} (hT : Tc u L σ) (h3 : σ.1 38 3 = nI t) (lo hi v3 : Int32) : ∀ (r p a e fuel : Nat), p + r = t → e + r = 6 → a + 1 ≤ 10 ^ e → r < fuel → lX8_isNumber_75 fuel lo hi v3 (nI a) (nI p) σ = match vl u r p a with
    | none => some (0, σ)
    | some b => jX8_isNumber_140 lo hi (if v3 = 0 then nI b else -(nI b)) σ := by
  intro r
  induction r with
  | zero =>
    intro p a e fuel hp he ha hf
    obtain ⟨fu, rfl⟩ : ∃ fu, fuel = fu + 1 := ⟨fuel - 1, by omega⟩
    rw [lX8_isNumber_75, h3, if_pos (by rw [kle (by omega) (by omega)]; omega)]
    show _ = jX8_isNumber_140 lo hi (if v3 = 0 then nI a else -(nI a)) σ
    by_cases z : v3 = 0
    · rw [if_pos z, if_pos z]
    · rw [if_neg z, if_neg z]
  | succ r ih =>
    intro p a e fuel hp he ha hf
    obtain ⟨fu, rfl⟩ : ∃ fu, fuel = fu + 1 := ⟨fuel - 1, by omega⟩
    have p6 : 10 ^ e ≤ 1000000 := Nat.pow_le_pow_right (n := 10) (by omega) (show e ≤ 6 by omega)
    rw [lX8_isNumber_75, h3, if_neg (by rw [kle (by omega) (by omega)]; omega), kinB (by omega), decide_eq_true (by omega), if_pos rfl, kc (by omega), hT.2 p (by omega), c_from, Option.bind_some, vl]
    dsimp only
    have e48 : (48 : Int32).toInt = 48 := rfl
    have e57 : (57 : Int32).toInt = 57 := rfl
    rw [e48, e57]
    cases z : okB 48 57 (u p) with
    | false =>
      rw [if_pos (show bI false = 0 from rfl), if_neg (by simp)]
    | true =>
      have k := okB_t.mp z
      have cl := i_cl (a := u p) (by have := k.1; omega)
      have k2 := k.2
      have en : nI p + 1 = nI (p + 1) := kadd _ 1
      rw [if_neg (show ¬ bI true = 0 by decide), if_pos rfl, if_pos rfl, vI_d, vI_d, hT.2 p (by omega), (dg_i (by omega) k).1, en]
      exact ih (p + 1) _ (e + 1) fu (by omega) (by omega) (by rw [Nat.pow_succ]; omega) (by omega)
theorem c_48 {s t : Nat} (hL : L ≤ 600) (ht : t ≤ L) (hs : s ≤ t) {σ : rS} (hT : Tc u L σ) (h3 : σ.1 38 3 = nI t) (lo hi v3 : Int32) : jX8_isNumber_48 lo hi v3 (nI s) σ = match nmv u s t with
    | none => some (0, σ)
    | some b => jX8_isNumber_140 lo hi (if v3 = 0 then nI b else -(nI b)) σ := by
  unfold jX8_isNumber_48 nmv
  have e1 : (1 : Int32).toInt = 1 := rfl
  have e6 : (6 : Int32).toInt = 6 := rfl
  rw [h3, ksub hs, c_from, Option.bind_some, e1, e6]
  dsimp only
  have ok : okB 1 6 (nI (t - s)) = decide (1 ≤ t - s ∧ t - s ≤ 6) := by
    unfold okB
    rw [ki (by omega)]
    congr 1
    apply propext
    omega
  rw [ok]
  by_cases z : 1 ≤ t - s ∧ t - s ≤ 6
  · rw [decide_eq_true z, if_neg (show ¬ bI true = 0 by decide), if_pos z]
    exact c_75 hL ht hT h3 lo hi v3 (t - s) s 0 (6 - (t - s)) 1000 (by omega) (by omega) (by have := Nat.pow_pos (n := 6 - (t - s)) (show 0 < 10 by omega); omega) (by omega)
  · rw [decide_eq_false z, if_pos (show bI false = 0 from rfl), if_neg z]
theorem c_isNum (h : WD u L c S T) {i : Nat} (hi : i ≤ c) {σ : rS} (hO : On u L S T σ i) (lo hh : Int32) : ∃ σ', fX8_isNumber lo hh σ = some (bI (numR u c S T lo hh i).isSome, σ') ∧ On u L S T σ' i ∧ Kp (fun n => n = 38) σ σ' ∧ ∀ v, numR u c S T lo hh i = some v → σ'.1 38 5 = v := by
  have hO' := hO
  obtain ⟨hT, h2, h3, h4⟩ := hO
  obtain ⟨a1, a2, a3, -⟩ := h.st hi
  have hL := h.1
  have fin : ∀ (o : Option Nat) (f : Nat → Int32) (X : Option (Int32 × rS)), numW u c S T i = o.map f → (o = none → X = some (0, σ)) → (∀ b, o = some b → X = jX8_isNumber_140 lo hh (f b) σ) → ∃ σ', X = some (bI (numR u c S T lo hh i).isSome, σ') ∧ On u L S T σ' i ∧ Kp (fun n => n = 38) σ σ' ∧ ∀ v, numR u c S T lo hh i = some v → σ'.1 38 5 = v := fun o f X e x0 x1 => by
    unfold numR
    cases o with
    | none =>
      have e : numW u c S T i = none := e
      rw [e, x0 rfl]
      exact ⟨σ, rfl, hO', Kp.rf _ σ, fun v z => by cases z⟩
    | some b =>
      have e : numW u c S T i = some (f b) := e
      rw [e, x1 b rfl, c_140]
      dsimp only
      have on : On u L S T (uI σ 38 5 (f b)) i := ⟨hT.uI (by omega) _, by rw [uI_nj (by omega)]; exact h2, by rw [uI_nj (by omega)]; exact h3, by rw [uI_nj (by omega)]; exact h4⟩
      refine ⟨_, ?_, on, Kp.uI (O := fun n => n = 38) rfl, fun v z => ?_⟩
      · cases okB lo.toInt hh.toInt (f b) <;> rfl
      · rw [uI_eq]
        by_cases y : okB lo.toInt hh.toInt (f b) = true
        · rw [if_pos y] at z; exact Option.some.inj z
        · rw [if_neg y] at z; cases z
  unfold fX8_isNumber jX8_isNumber_29 jX8_isNumber_30
  rw [h2, h3]
  by_cases z : i < c
  · have w := h.2.1.2.1 i z
    rw [if_neg (by rw [kle (by omega) (by omega)]; omega), kinB (by omega), decide_eq_true (by omega), if_pos rfl, kc (by omega), hT.2 (S i) (by omega)]
    by_cases y : u (S i) = 45
    · have en : nI (S i) + 1 = nI (S i + 1) := kadd _ 1
      rw [if_pos y, if_neg (by decide), en, c_48 hL a3 (by omega) hT h3]
      exact fin (nmv u (S i + 1) (T i)) (fun a => -(nI a)) _ (by unfold numW; rw [if_pos z, if_pos y]) (fun q => by rw [q]) (fun b q => by rw [q]; rfl)
    · rw [if_neg y, if_pos rfl, c_48 hL a3 (by omega) hT h3]
      exact fin (nmv u (S i) (T i)) nI _ (by unfold numW; rw [if_pos z, if_neg y]) (fun q => by rw [q]) (fun b q => by rw [q]; rfl)
  · have w := h.2.2 i (by omega)
    rw [if_pos (by rw [kle (by omega) (by omega)]; omega), if_pos rfl, c_48 hL a3 a2 hT h3]
    have e0 : nmv u (S i) (T i) = none := by unfold nmv; rw [if_neg (by omega)]
    rw [e0]
    exact fin none nI _ (by unfold numW; rw [if_neg z]; rfl) (fun _ => rfl) (fun b q => by cases q)
theorem c_takeNum (h : WD u L c S T) {i : Nat} (hi : i ≤ c) {σ : rS} (hA : At u L T σ i) (lo hh : Int32) : ∃ σ', fX8_takeNumber lo hh σ = some (bI (numR u c S T lo hh i).isSome, σ') ∧ On u L S T σ' i ∧ Kp (fun n => n = 38) σ σ' ∧ ∀ v, numR u c S T lo hh i = some v → σ'.1 38 5 = v := by
  obtain ⟨σ1, e1, o1, k1⟩ := c_move h hi hA
  obtain ⟨σ2, e2, o2, k2, v2⟩ := c_isNum h hi o1 lo hh
  refine ⟨σ2, ?_, o2, k1.tr k2, v2⟩
  unfold fX8_takeNumber
  rw [e1, Option.bind_some]
  dsimp only
  rw [e2, Option.bind_some]
  dsimp only
  rw [if_pos (by rw [bI_01]; trivial)]
end Cn
