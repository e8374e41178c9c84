/-! IS A WORD A LETTER OR A NUMBER: the model. -/
section Mn
variable {u : Nat → Int32} {L c : Nat} {S T : Nat → Nat}
theorem m_isWord (h : WD u L c S T) {σ : rS} (t : Tq u L σ) (m : Mw σ c S T) {i : Nat} (hi : i < c) (ch : Int32) : fX12_isWord (nI i) ch σ = some (bI (isLW u c S T i ch), σ) := by
  obtain ⟨a1, a2, a3, a4, a5, a6⟩ := h.2.1.2.1 i hi
  have hL := h.1
  have cL := h.2.1.1
  obtain ⟨m1, m2⟩ := m.2 i hi
  unfold fX12_isWord jX12_isWord_36 jX12_isWord_37 isLW
  have e1 : (nI (T i - S i) = 1) = (T i - S i = 1) := propext (keq (b := 1) (by omega) (by omega))
  rw [kinB (by omega), decide_eq_true (by omega), if_pos rfl, if_pos rfl, kc (by omega), m1, m2, ksub (by omega)]
  by_cases z : T i - S i = 1
  · rw [if_pos (by rw [e1]; exact z), if_pos rfl, kinB (by omega), decide_eq_true (by omega), if_pos rfl, kc (by omega), t.2 (S i) (by omega)]
    by_cases y : u (S i) = ch
    · rw [if_pos y, if_pos (by decide), decide_eq_true ⟨hi, by omega, y⟩]; rfl
    · rw [if_neg y, if_pos (by decide), decide_eq_false (fun q => y q.2.2)]; rfl
  · rw [if_neg (by rw [e1]; exact z), if_pos (by decide), decide_eq_false (fun q => z (by omega))]; rfl
theorem m_175 {i : Nat} (hi : i < 600) (lo hh v : Int32) (g : Bool) (σ : rS) : jX12_isNumber_175 (nI i) lo hh (bI g) v (nI i) σ = some (bI (g && okB lo.toInt hh.toInt v), uA σ 66 i v) := by
  unfold jX12_isNumber_175 jX12_isNumber_199 jX12_isNumber_200
  rw [kinB (by omega), decide_eq_true hi, if_pos rfl, vS_d, kc (by omega)]
  cases g with
  | false => rw [if_pos (show bI false = 0 from rfl), if_pos (by decide)]; rfl
  | true =>
    rw [if_neg (show ¬ bI true = 0 by decide), if_pos rfl, uA_eq, m_from, Option.bind_some, Bool.true_and]
    dsimp only
    cases okB lo.toInt hh.toInt v with
    | false => rw [if_pos (show bI false = 0 from rfl), if_pos (by decide)]; rfl
    | true => rw [if_neg (show ¬ bI true = 0 by decide), if_pos (by decide)]; rfl
theorem m_157 {i : Nat} (hi : i < 600) (lo hh v5 v : Int32) (g : Bool) (σ : rS) : jX12_isNumber_157 (nI i) lo hh v5 (bI g) v σ = some (bI (g && okB lo.toInt hh.toInt (if v5 = 0 then v else -v)), uA σ 66 i (if v5 = 0 then v else -v)) := by
  unfold jX12_isNumber_157
  by_cases z : v5 = 0
  · rw [if_pos z, if_pos z, m_175 hi]
  · rw [if_neg z, if_neg z, m_175 hi]
theorem m_bad (h : WD u L c S T) {σ : rS} (m : Mw σ c S T) {i : Nat} (hi : i < c) (lo hh v5 w p : Int32) (fu : Nat) : lX12_isNumber_86 (fu + 1) (nI i) lo hh v5 0 w p σ = jX12_isNumber_157 (nI i) lo hh v5 (bI false) w σ := by
  have hL := h.1
  have cL := h.2.1.1
  rw [lX12_isNumber_86, kinB (by omega), decide_eq_true (by omega), if_pos rfl]
  by_cases z : σ.2.2.1 65 (nI i).toNatClampNeg ≤ p
  · rw [if_pos z]; rfl
  · rw [if_neg z, if_pos rfl]; rfl
theorem m_86 (h : WD u L c S T) {σ : rS} (t : Tq u L σ) (m : Mw σ c S T) {i : Nat} (hi : i < c) (lo hh v5 : Int32) : ∀ (r p a e fuel : Nat), p + r = T i → e + r = 6 → a + 1 ≤ 10 ^ e → r + 1 < fuel →
    (∀ b, vl u r p a = some b → lX12_isNumber_86 fuel (nI i) lo hh v5 1 (nI a) (nI p) σ = jX12_isNumber_157 (nI i) lo hh v5 (bI true) (nI b) σ) ∧
    (vl u r p a = none → ∃ w, lX12_isNumber_86 fuel (nI i) lo hh v5 1 (nI a) (nI p) σ = jX12_isNumber_157 (nI i) lo hh v5 (bI false) w σ) := by
  obtain ⟨a1, a2, a3, a4, a5, a6⟩ := h.2.1.2.1 i hi
  have hL := h.1
  have cL := h.2.1.1
  obtain ⟨m1, m2⟩ := m.2 i hi
  intro r
  induction r with
  | zero =>
    intro p a e fuel hp he ha hf
    obtain ⟨fu, rfl⟩ : ∃ fu, fuel = fu + 1 := ⟨fuel - 1, by omega⟩
    refine ⟨fun b hb => ?_, fun z => by cases z⟩
    rw [vl] at hb
    cases hb
    rw [lX12_isNumber_86, kinB (by omega), decide_eq_true (by omega), if_pos rfl, kc (by omega), m2, if_pos (by rw [kle (by omega) (by omega)]; omega)]
    rfl
  | succ r ih =>
    intro p a e fuel hp he ha hf
    obtain ⟨fu, rfl⟩ : ∃ fu, fuel = fu + 1 := ⟨fuel - 1, by omega⟩
    have p6 : 10 ^ e ≤ 1000000 := Nat.pow_le_pow_right (n := 10) (by omega) (show e ≤ 6 by omega)
    have e48 : (48 : Int32).toInt = 48 := rfl
    have e57 : (57 : Int32).toInt = 57 := rfl
    have en : nI p + 1 = nI (p + 1) := kadd _ 1
    rw [lX12_isNumber_86, kinB (by omega), decide_eq_true (by omega), if_pos rfl, kc (by omega), m2, if_neg (by rw [kle (by omega) (by omega)]; omega), if_neg (by decide), kinB (by omega), decide_eq_true (by omega), if_pos rfl, kc (by omega), t.2 p (by omega), vl]
    unfold jX12_isNumber_130 jX12_isNumber_131
    rw [kinB (by omega), decide_eq_true (by omega), if_pos rfl, kc (by omega), t.2 p (by omega)]
    cases z : okB 48 57 (u p) with
    | false =>
      have nk : ¬ okR 48 57 (u p) := fun q => by rw [okB_t.mpr q] at z; cases z
      refine ⟨fun b hb => (by rw [if_neg (by simp)] at hb; cases hb), fun _ => ?_⟩
      obtain ⟨f2, rfl⟩ : ∃ f2, fu = f2 + 1 := ⟨fu - 1, by omega⟩
      by_cases y : u p < 48
      · rw [if_pos y, vI_d, vI_d]
        exact ⟨_, m_bad h m hi lo hh v5 _ _ f2⟩
      · rw [if_neg y, if_pos rfl, if_pos (by rw [i_lt] at y ⊢; rw [e57]; rw [e48] at y; unfold okR at nk; omega), vI_d, vI_d]
        exact ⟨_, m_bad h m hi lo hh v5 _ _ f2⟩
    | true =>
      have k := okB_t.mp z
      have cl := i_cl (a := u p) (by have := k.1; omega)
      have k1 := k.1
      have k2 := k.2
      rw [if_pos rfl, if_neg (by rw [i_lt, e48]; omega), if_pos rfl, if_neg (by rw [i_lt, e57]; omega), vI_d, vI_d, (dg_i (by omega) k).2, en]
      exact ih (p + 1) _ (e + 1) fu (by omega) (by omega) (by rw [Nat.pow_succ]; omega) (by omega)
theorem m_66 (h : WD u L c S T) {σ : rS} (t : Tq u L σ) (m : Mw σ c S T) {i : Nat} (hi : i < c) (lo hh : Int32) (ng : Bool) : ∃ g w, jX12_isNumber_25 (nI i) lo hh (nI (S i)) (bI ng) σ = jX12_isNumber_157 (nI i) lo hh (bI ng) (bI g) w σ ∧ (∀ b, nmv u (S i + (if ng = true then 1 else 0)) (T i) = some b → g = true ∧ w = nI b) ∧ (nmv u (S i + (if ng = true then 1 else 0)) (T i) = none → g = false) := by
  obtain ⟨a1, a2, a3, a4, a5, a6⟩ := h.2.1.2.1 i hi
  have hL := h.1
  have cL := h.2.1.1
  obtain ⟨m1, m2⟩ := m.2 i hi
  have go : ∀ (d : Nat), d ≤ 1 → ∃ g w, (vI ((nI (T i) - nI (S i)) - nI d) fun x7 => if x7 ≤ 0 then lX12_isNumber_86 1000 (nI i) lo hh (bI ng) 0 0 (nI (S i) + nI d) σ else if 7 ≤ x7 then lX12_isNumber_86 1000 (nI i) lo hh (bI ng) 0 0 (nI (S i) + nI d) σ else lX12_isNumber_86 1000 (nI i) lo hh (bI ng) 1 0 (nI (S i) + nI d) σ) = jX12_isNumber_157 (nI i) lo hh (bI ng) (bI g) w σ ∧ (∀ b, nmv u (S i + d) (T i) = some b → g = true ∧ w = nI b) ∧ (nmv u (S i + d) (T i) = none → g = false) := fun d hd => by
    rw [vI_d, ksub (by omega), ksub (by omega), kadd]
    unfold nmv
    have e1 : T i - S i - d = T i - (S i + d) := by omega
    have bad : ∀ fu w p, lX12_isNumber_86 (fu + 1) (nI i) lo hh (bI ng) 0 w p σ = jX12_isNumber_157 (nI i) lo hh (bI ng) (bI false) w σ := fun fu w p => m_bad h m hi lo hh (bI ng) w p fu
    by_cases z : 1 ≤ T i - (S i + d) ∧ T i - (S i + d) ≤ 6
    · rw [if_pos z, if_neg (by show ¬ nI _ ≤ nI 0; rw [kle (by omega) (by omega)]; omega), if_neg (by show ¬ nI 7 ≤ nI _; rw [kle (by omega) (by omega)]; omega)]
      obtain ⟨g1, g2⟩ := m_86 h t m hi lo hh (bI ng) (T i - (S i + d)) (S i + d) 0 (6 - (T i - (S i + d))) 1000 (by omega) (by omega) (by have := Nat.pow_pos (n := 6 - (T i - (S i + d))) (show 0 < 10 by omega); omega) (by omega)
      cases y : vl u (T i - (S i + d)) (S i + d) 0 with
      | some b0 =>
        refine ⟨true, nI b0, g1 b0 y, fun b hb => ?_, fun q => by cases q⟩
        cases hb
        exact ⟨rfl, rfl⟩
      | none =>
        obtain ⟨w, hw⟩ := g2 y
        exact ⟨false, w, hw, fun b hb => (by cases hb), fun _ => rfl⟩
    · rw [if_neg z]
      refine ⟨false, 0, ?_, fun b hb => (by cases hb), fun _ => rfl⟩
      by_cases y : nI (T i - S i - d) ≤ 0
      · rw [if_pos y]; exact bad 999 0 _
      · rw [if_neg y]
        by_cases x : (7 : Int32) ≤ nI (T i - S i - d)
        · rw [if_pos x]; exact bad 999 0 _
        · have y : ¬ nI (T i - S i - d) ≤ nI 0 := y
          have x : ¬ nI 7 ≤ nI (T i - S i - d) := x
          rw [kle (by omega) (by omega)] at x y
          omega
  have go0 := go 0 (by omega)
  have go1 := go 1 (by omega)
  unfold jX12_isNumber_25 jX12_isNumber_46 jX12_isNumber_65 jX12_isNumber_66 jX12_isNumber_83
  rw [kinB (by omega), decide_eq_true (by omega), if_pos rfl, kc (by omega), m2]
  cases ng with
  | false => exact go0
  | true => exact go1
theorem m_isNum (h : WD u L c S T) {σ : rS} (t : Tq u L σ) (m : Mw σ c S T) {i : Nat} (hi : i < c) (lo hh : Int32) : ∃ w, fX12_isNumber (nI i) lo hh σ = some (bI (numR u c S T lo hh i).isSome, uA σ 66 i w) ∧ ∀ v, numR u c S T lo hh i = some v → w = v := by
  obtain ⟨a1, a2, a3, a4, a5, a6⟩ := h.2.1.2.1 i hi
  have hL := h.1
  have cL := h.2.1.1
  obtain ⟨m1, m2⟩ := m.2 i hi
  have fin : ∀ ng : Bool, numW u c S T i = (nmv u (S i + (if ng = true then 1 else 0)) (T i)).map (fun a => if bI ng = 0 then nI a else -(nI a)) → ∃ w, jX12_isNumber_25 (nI i) lo hh (nI (S i)) (bI ng) σ = some (bI (numR u c S T lo hh i).isSome, uA σ 66 i w) ∧ ∀ v, numR u c S T lo hh i = some v → w = v := fun ng e => by
    obtain ⟨g, w, g1, g2, g3⟩ := m_66 h t m hi lo hh ng
    rw [g1, m_157 (by omega)]
    unfold numR
    rw [e]
    cases y : nmv u (S i + (if ng = true then 1 else 0)) (T i) with
    | none =>
      rw [g3 y]
      exact ⟨_, rfl, fun v z => by cases z⟩
    | some b =>
      obtain ⟨q1, q2⟩ := g2 b y
      rw [q1, q2, Bool.true_and]
      refine ⟨(if bI ng = 0 then nI b else -(nI b)), ?_, fun v z => ?_⟩
      · dsimp only [Option.map]
        cases okB lo.toInt hh.toInt (if bI ng = 0 then nI b else -(nI b)) <;> rfl
      · dsimp only [Option.map] at z
        by_cases x : okB lo.toInt hh.toInt (if bI ng = 0 then nI b else -(nI b)) = true
        · rw [if_pos x] at z; exact Option.some.inj z
        · rw [if_neg x] at z; cases z
  unfold fX12_isNumber
  rw [kinB (by omega), decide_eq_true (by omega), if_pos rfl, kc (by omega), m1, vI_d, kinB (by omega), decide_eq_true (by omega), if_pos rfl, kc (by omega), t.2 (S i) (by omega)]
  by_cases z : u (S i) = 45
  · rw [if_pos z]
    exact fin true (by unfold numW; rw [if_pos hi, if_pos z]; rfl)
  · rw [if_neg z]
    exact fin false (by unfold numW; rw [if_pos hi, if_neg z]; rfl)
end Mn
