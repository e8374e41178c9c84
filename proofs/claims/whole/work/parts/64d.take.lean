/-! WHAT A TEXT SAYS, WORD BY WORD; the class reads it so. -/
def lays (u : Nat → Int32) (c : Nat) (S T : Nat → Nat) : Nat → Nat → Except Nat (Nat × List (Int32 × Int32))
  | 0, i => if isLW u c S T i 101 = true then .ok (i + 1, []) else .error i
  | r + 1, i => if isLW u c S T i 101 = true then .ok (i + 1, []) else match numR u c S T 0 7 i with
    | none => .error i
    | some k => match numR u c S T 1 10000 (i + 1) with
      | none => .error (i + 1)
      | some h => match lays u c S T r (i + 2) with
        | .error b => .error b
        | .ok q => .ok (q.1, (k, h) :: q.2)
def borS (u : Nat → Int32) (c : Nat) (S T : Nat → Nat) (τ : rS) (B : List tB) (i : Nat) : Except Nat (Nat × tB) :=
  if isLW u c S T i 98 = true ∧ wn τ + B.length < 16 then match numR u c S T (-1000) 1000 (i + 1) with
    | none => .error (i + 1)
    | some x => match numR u c S T (-1000) 1000 (i + 2) with
      | none => .error (i + 2)
      | some y => if tk τ B x y = true then .error (i + 2) else match numR u c S T (-100000) 100000 (i + 3) with
        | none => .error (i + 3)
        | some t => match lays u c S T 12 (i + 4) with
          | .error b => .error b
          | .ok q => .ok (q.1, (x, y, t, q.2))
  else .error i
def allS (u : Nat → Int32) (c : Nat) (S T : Nat → Nat) (τ : rS) : Nat → Nat → List tB → Except Nat (List tB)
  | 0, i, _ => .error i
  | r + 1, i, B => if c ≤ i then .ok B else match borS u c S T τ B i with
    | .error b => .error b
    | .ok q => allS u c S T τ r q.1 (B ++ [q.2])
def Fl (τ σ : rS) (b : Nat) : Prop := Kp (oSt (wn τ)) τ σ ∧ σ.1 1 1 = nI (wn τ) ∧ σ.1 38 4 = nI b
theorem Sg.fl {τ σ : rS} {B : List tB} {b : Nat} (h : Sg τ σ B) (e : σ.1 38 4 = nI b) : Fl τ σ b := ⟨h.1, h.2.1, e⟩
theorem At.kp {u : Nat → Int32} {L : Nat} {T : Nat → Nat} {σ σ' : rS} {i : Nat} (h : At u L T σ i) (a : Eqo σ' σ 38) (b : Eqo σ' σ 39) : At u L T σ' i := ⟨h.1.kp (a.1 1) b, (a.1 3).trans h.2.1, by rw [a.1 4]; exact h.2.2⟩
theorem isLW_lt {u : Nat → Int32} {c : Nat} {S T : Nat → Nat} {i : Nat} {ch : Int32} (h : isLW u c S T i ch = true) : i < c := (of_decide_eq_true h).1
theorem bIn : bI (none : Option Int32).isSome = 0 := rfl
theorem bIs (k : Int32) : ¬ bI (some k).isSome = 0 := by show ¬ bI true = 0; decide
section Tk
variable {u : Nat → Int32} {L c : Nat} {S T : Nat → Nat} {τ : rS}
theorem c_lays (h : WD u L c S T) {B : List tB} {x y t : Int32} : ∀ (r i l fuel : Nat) (σ : rS) (ls : List (Int32 × Int32)), l + r = 12 → ls.length = l → i ≤ c → r < fuel → At u L T σ i → Sg τ σ (B ++ [(x, y, t, ls)]) →
    (∀ b, lays u c S T r i = .error b → ∃ σ', lX8_takeLayers_2 fuel (nI l) σ = some (0, σ') ∧ Fl τ σ' b ∧ b ≤ c) ∧
    (∀ q, lays u c S T r i = .ok q → ∃ σ', lX8_takeLayers_2 fuel (nI l) σ = some (1, σ') ∧ At u L T σ' q.1 ∧ q.1 ≤ c ∧ Sg τ σ' (B ++ [(x, y, t, ls ++ q.2)])) := by
  intro r
  induction r with
  | zero =>
    intro i l fuel σ ls hl hls hi hf hA hS
    obtain ⟨fu, rfl⟩ : ∃ fu, fuel = fu + 1 := ⟨fuel - 1, by omega⟩
    obtain ⟨σ1, e1, o1, k1⟩ := c_move h hi hA
    have S1 := hS.k38 k1
    have e2 := c_letter h hi o1 101
    have el : l = 12 := by omega
    subst el
    rw [lays]
    have go : lX8_takeLayers_2 (fu + 1) (nI 12) σ = if isLW u c S T i 101 = true then some (1, σ1) else some (0, σ1) := by
      rw [lX8_takeLayers_2, if_neg (by decide), e1, Option.bind_some]
      dsimp only
      rw [e2, Option.bind_some]
      dsimp only
      cases z : isLW u c S T i 101 with
      | true => rw [if_neg (show ¬ bI true = 0 by decide), if_pos rfl]
      | false =>
        rw [if_pos (show bI false = 0 from rfl), if_pos (by decide), if_neg (by simp)]
        rfl
    cases z : isLW u c S T i 101 with
    | true =>
      rw [z, if_pos rfl] at go
      refine ⟨fun b hb => (by rw [if_pos rfl] at hb; cases hb), fun q hq => ?_⟩
      rw [if_pos rfl] at hq
      cases hq
      rw [List.append_nil]
      exact ⟨σ1, go, o1.nx, isLW_lt z, S1⟩
    | false =>
      rw [z, if_neg (by simp)] at go
      refine ⟨fun b hb => ?_, fun q hq => by rw [if_neg (by simp)] at hq; cases hq⟩
      rw [if_neg (by simp)] at hb
      cases hb
      exact ⟨σ1, go, S1.fl o1.2.2.2, hi⟩
  | succ r ih =>
    intro i l fuel σ ls hl hls hi hf hA hS
    obtain ⟨fu, rfl⟩ : ∃ fu, fuel = fu + 1 := ⟨fuel - 1, by omega⟩
    obtain ⟨σ1, e1, o1, k1⟩ := c_move h hi hA
    have S1 := hS.k38 k1
    have e2 := c_letter h hi o1 101
    rw [lX8_takeLayers_2, if_neg (by show ¬ nI 12 < nI l; rw [klt (by omega) (by omega)]; omega), e1, Option.bind_some]
    dsimp only
    rw [e2, Option.bind_some]
    dsimp only
    cases z : isLW u c S T i 101 with
    | true =>
      rw [if_neg (show ¬ bI true = 0 by decide), lays, if_pos z]
      refine ⟨fun b hb => (by cases hb), fun q hq => ?_⟩
      cases hq
      rw [List.append_nil]
      exact ⟨σ1, rfl, o1.nx, isLW_lt z, S1⟩
    | false =>
      obtain ⟨σ2, e3, o2, k2, v2⟩ := c_isNum h hi o1 0 7
      have S2 := S1.k38 k2
      rw [if_pos (show bI false = 0 from rfl), if_neg (by show ¬ nI l = nI 12; rw [keq (by omega) (by omega)]; omega), e3, Option.bind_some, lays, if_neg (by rw [z]; simp)]
      dsimp only
      cases y1 : numR u c S T 0 7 i with
      | none =>
        rw [if_pos bIn]
        refine ⟨fun b hb => ?_, fun q hq => by cases hq⟩
        cases hb
        exact ⟨σ2, rfl, S2.fl o2.2.2.2, hi⟩
      | some k =>
        obtain ⟨ic, hk⟩ := numR_ok y1
        obtain ⟨σ3, e4, o3, k3, v3⟩ := c_takeNum h (i := i + 1) (by omega) o2.nx 1 10000
        have S3 := S2.k38 k3
        rw [if_neg (bIs k), vI_d, v2 k y1, e4, Option.bind_some]
        dsimp only
        cases y2 : numR u c S T 1 10000 (i + 1) with
        | none =>
          rw [if_pos bIn]
          refine ⟨fun b hb => ?_, fun q hq => by cases hq⟩
          cases hb
          exact ⟨σ3, rfl, S3.fl o3.2.2.2, by omega⟩
        | some v =>
          obtain ⟨ic2, hv⟩ := numR_ok y2
          obtain ⟨σ4, e5, S4, q38, q39⟩ := c_lay1 S3 (by omega) (k := k) (v := v) hk hv
          have A4 := (o3.nx).kp q38 q39
          have en : nI l + 1 = nI (l + 1) := kadd _ 1
          rw [if_neg (bIs v), v3 v y2, e5, Option.bind_some, vI_d, en]
          dsimp only
          obtain ⟨g1, g2⟩ := ih (i + 2) (l + 1) fu σ4 (ls ++ [(k, v)]) (by omega) (by rw [List.length_append]; show ls.length + 1 = l + 1; omega) (by omega) (by omega) A4 S4
          cases w : lays u c S T r (i + 2) with
          | error b1 =>
            refine ⟨fun b hb => ?_, fun q hq => by cases hq⟩
            cases hb
            exact g1 b1 w
          | ok q1 =>
            refine ⟨fun b hb => (by cases hb), fun q hq => ?_⟩
            cases hq
            have := g2 q1 w
            rw [List.append_assoc] at this
            exact this
theorem c_takeB (h : WD u L c S T) (hB : VB τ) {B : List tB} {i : Nat} (hi : i ≤ c) {σ : rS} (hO : On u L S T σ i) (hS : Sg τ σ B) :
    (∀ b, borS u c S T τ B i = .error b → ∃ σ', fX8_takeBoring σ = some (0, σ') ∧ Fl τ σ' b ∧ b ≤ c) ∧
    (∀ q, borS u c S T τ B i = .ok q → ∃ σ', fX8_takeBoring σ = some (1, σ') ∧ At u L T σ' q.1 ∧ q.1 ≤ c ∧ Sg τ σ' (B ++ [q.2])) := by
  have h16 := hS.2.2.2.1
  have e1 := c_letter h hi hO 98
  unfold borS fX8_takeBoring jX8_takeBoring_29 jX8_takeBoring_62
  rw [e1, Option.bind_some]
  dsimp only
  cases z : isLW u c S T i 98 with
  | false =>
    rw [if_pos (show bI false = 0 from rfl), if_neg (fun w => by simp at w)]
    refine ⟨fun b hb => ?_, fun q hq => by cases hq⟩
    cases hb
    exact ⟨σ, rfl, hS.fl hO.2.2.2, hi⟩
  | true =>
    have ic := isLW_lt z
    rw [if_neg (show ¬ bI true = 0 by decide), c_full hS.sum h16, Option.bind_some]
    dsimp only
    by_cases f : wn τ + B.length = 16
    · rw [decide_eq_true f, if_neg (show ¬ bI true = 0 by decide), if_neg (fun w => by omega)]
      refine ⟨fun b hb => ?_, fun q hq => by cases hq⟩
      cases hb
      exact ⟨σ, rfl, hS.fl hO.2.2.2, hi⟩
    · obtain ⟨σ1, a1, o1, k1, v1⟩ := c_takeNum h (i := i + 1) (by omega) hO.nx (-1000) 1000
      have S1 := hS.k38 k1
      rw [decide_eq_false f, if_pos (show bI false = 0 from rfl), if_pos ⟨rfl, by omega⟩, a1, Option.bind_some]
      dsimp only
      cases y1 : numR u c S T (-1000) 1000 (i + 1) with
      | none =>
        rw [if_pos bIn]
        refine ⟨fun b hb => ?_, fun q hq => by cases hq⟩
        cases hb
        exact ⟨σ1, rfl, S1.fl o1.2.2.2, by omega⟩
      | some x =>
        obtain ⟨ic1, hx⟩ := numR_ok y1
        obtain ⟨σ2, a2, o2, k2, v2⟩ := c_takeNum h (i := i + 2) (by omega) o1.nx (-1000) 1000
        have S2 := S1.k38 k2
        rw [if_neg (bIs x), vI_d, v1 x y1, a2, Option.bind_some]
        dsimp only
        cases y2 : numR u c S T (-1000) 1000 (i + 2) with
        | none =>
          rw [if_pos bIn]
          refine ⟨fun b hb => ?_, fun q hq => by cases hq⟩
          cases hb
          exact ⟨σ2, rfl, S2.fl o2.2.2.2, by omega⟩
        | some y =>
          obtain ⟨ic2, hy⟩ := numR_ok y2
          obtain ⟨w, b1, b2⟩ := c_free hB S2 hx hy
          rw [if_neg (bIs y), v2 y y2, b1, Option.bind_some]
          dsimp only
          cases tt : tk τ B x y with
          | true =>
            rw [if_pos rfl, if_neg (show ¬ w = (-1) from fun q => by have := b2.mp q; rw [tt] at this; cases this)]
            refine ⟨fun b hb => ?_, fun q hq => by cases hq⟩
            cases hb
            exact ⟨σ2, rfl, S2.fl o2.2.2.2, by omega⟩
          | false =>
            obtain ⟨σ3, a3, o3, k3, v3⟩ := c_takeNum h (i := i + 3) (by omega) o2.nx (-100000) 100000
            have S3 := S2.k38 k3
            rw [if_neg (show ¬ false = true by simp), if_pos (b2.mpr tt), vI_d, v2 y y2, a3, Option.bind_some]
            dsimp only
            cases y3 : numR u c S T (-100000) 100000 (i + 3) with
            | none =>
              rw [if_pos bIn]
              refine ⟨fun b hb => ?_, fun q hq => by cases hq⟩
              cases hb
              exact ⟨σ3, rfl, S3.fl o3.2.2.2, by omega⟩
            | some t =>
              obtain ⟨ic3, ht⟩ := numR_ok y3
              obtain ⟨σ4, a4, S4, q38, q39⟩ := c_stg S3 (by omega) hx hy ht
              have A4 := (o3.nx).kp q38 q39
              rw [if_neg (bIs t), v3 t y3, a4, Option.bind_some]
              dsimp only
              unfold fX8_takeLayers
              obtain ⟨g1, g2⟩ := c_lays h 12 (i + 4) 0 1000 σ4 [] (by omega) rfl (by omega) (by omega) A4 S4
              cases w : lays u c S T 12 (i + 4) with
              | error b0 =>
                refine ⟨fun b hb => ?_, fun q hq => by cases hq⟩
                cases hb
                obtain ⟨σ5, x1, x2, x3⟩ := g1 b0 w
                have x1 : lX8_takeLayers_2 1000 0 σ4 = some (0, σ5) := x1
                exact ⟨σ5, by rw [x1]; rfl, x2, x3⟩
              | ok q0 =>
                refine ⟨fun b hb => (by cases hb), fun q hq => ?_⟩
                cases hq
                obtain ⟨σ5, x1, x2, x3, x4⟩ := g2 q0 w
                have x1 : lX8_takeLayers_2 1000 0 σ4 = some (1, σ5) := x1
                exact ⟨σ5, by rw [x1]; rfl, x2, x3, x4⟩
theorem c_allB (h : WD u L c S T) (hB : VB τ) : ∀ (r i fuel : Nat) (σ : rS) (B : List tB), B.length + r = 17 → i ≤ c → r < fuel + 1 → 1 ≤ r → At u L T σ i → Sg τ σ B →
    (∀ b, allS u c S T τ r i B = .error b → ∃ σ', lX8_stageBorings_12 fuel (nI B.length) σ = some ((-1) - nI b, σ') ∧ Fl τ σ' b ∧ b ≤ c) ∧
    (∀ B', allS u c S T τ r i B = .ok B' → ∃ σ', lX8_stageBorings_12 fuel (nI B.length) σ = some (nI B'.length, σ') ∧ Sg τ σ' B') := by
  intro r
  induction r with
  | zero => intro i fuel σ B hr hi hf h1; omega
  | succ r ih =>
    intro i fuel σ B hr hi hf h1 hA hS
    obtain ⟨fu, rfl⟩ : ∃ fu, fuel = fu + 1 := ⟨fuel - 1, by omega⟩
    obtain ⟨σ1, e1, o1, k1⟩ := c_move h hi hA
    have S1 := hS.k38 k1
    have hL := h.1
    obtain ⟨a1, a2, a3, -⟩ := h.st hi
    rw [lX8_stageBorings_12, if_neg (by show ¬ nI 16 < nI _; rw [klt (by omega) (by omega)]; omega), e1, Option.bind_some]
    dsimp only
    rw [o1.2.1, o1.1.1]
    by_cases z : c ≤ i
    · have w := h.2.2 i z
      rw [if_neg (by rw [klt (by omega) (by omega)]; omega), allS, if_pos z]
      refine ⟨fun b hb => (by cases hb), fun B' hq => ?_⟩
      cases hq
      exact ⟨σ1, rfl, S1⟩
    · have w := h.2.1.2.1 i (by omega)
      rw [if_pos (by rw [klt (by omega) (by omega)]; omega), allS, if_neg z]
      obtain ⟨g1, g2⟩ := c_takeB h hB hi o1 S1
      cases y : borS u c S T τ B i with
      | error b0 =>
        obtain ⟨σ2, x1, x2, x3⟩ := g1 b0 y
        refine ⟨fun b hb => ?_, fun q hq => by cases hq⟩
        cases hb
        refine ⟨σ2, ?_, x2, x3⟩
        rw [x1, Option.bind_some]
        dsimp only
        rw [if_pos rfl, x2.2.2]
      | ok q0 =>
        obtain ⟨σ2, x1, x2, x3, x4⟩ := g2 q0 y
        have l1 : (B ++ [q0.2]).length = B.length + 1 := by rw [List.length_append]; rfl
        have l16 := x4.2.2.2.1
        have en : nI B.length + 1 = nI (B ++ [q0.2]).length := by rw [l1]; exact kadd _ 1
        rw [x1, Option.bind_some]
        dsimp only
        rw [if_neg (by decide), vI_d, en]
        exact ih q0.1 fu σ2 (B ++ [q0.2]) (by omega) x3 (by omega) (by omega) x2 x4
end Tk
