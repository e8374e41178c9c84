/-! read, BOTH HALVES: the frame. -/
def Dst (τ : rS) (B : List tB) : Prop := (∀ (j k : Nat) (b : tB), j < wn τ → B[k]? = some b → ¬ (wx τ j = b.1 ∧ wy τ j = b.2.1)) ∧ ∀ (j k : Nat) (a b : tB), j < k → B[j]? = some a → B[k]? = some b → ¬ (a.1 = b.1 ∧ a.2.1 = b.2.1)
theorem tk_no {τ : rS} {B : List tB} {x y : Int32} (h : tk τ B x y = false) : (∀ j, j < wn τ → ¬ (wx τ j = x ∧ wy τ j = y)) ∧ ∀ (j : Nat) (b : tB), B[j]? = some b → ¬ (b.1 = x ∧ b.2.1 = y) := by
  unfold tk at h
  rw [Bool.or_eq_false_iff] at h
  refine ⟨fun j hj => ?_, fun j b hb q => ?_⟩
  · have h1 := h.1
    unfold tkn at h1
    rw [Option.isSome_eq_false_iff, Option.isNone_iff_eq_none, ff_none] at h1
    have := h1 j (by omega) (by omega)
    unfold tkB at this
    exact of_decide_eq_false this
  · have h2 := h.2
    rw [List.any_eq_false] at h2
    exact h2 b (List.mem_of_getElem? hb) (decide_eq_true q)
theorem Dst.add {τ : rS} {B : List tB} {q : tB} (h : Dst τ B) (n : tk τ B q.1 q.2.1 = false) : Dst τ (B ++ [q]) := by
  obtain ⟨n1, n2⟩ := tk_no n
  have sp : ∀ (i : Nat) (p : tB), (B ++ [q])[i]? = some p → (i < B.length ∧ B[i]? = some p) ∨ (i = B.length ∧ p = q) := fun i p hp => by
    by_cases w : i < B.length
    · rw [List.getElem?_append_left w] at hp; exact Or.inl ⟨w, hp⟩
    · rw [List.getElem?_append_right (by omega)] at hp
      have e : i - B.length = 0 := by
        have := (List.getElem?_eq_some_iff.mp hp).1
        have : i - B.length < 1 := this
        omega
      rw [e] at hp
      have hp : some q = some p := hp
      exact Or.inr ⟨by omega, (Option.some.inj hp).symm⟩
  refine ⟨fun j k b hj hb => ?_, fun j k a b hjk ha hb => ?_⟩
  · rcases sp k b hb with ⟨w1, w2⟩ | ⟨w1, w2⟩
    · exact h.1 j k b hj w2
    · rw [w2]; exact n1 j hj
  · rcases sp k b hb with ⟨w1, w2⟩ | ⟨w1, w2⟩
    · rcases sp j a ha with ⟨v1, v2⟩ | ⟨v1, v2⟩
      · exact h.2 j k a b hjk v2 w2
      · omega
    · rcases sp j a ha with ⟨v1, v2⟩ | ⟨v1, v2⟩
      · rw [w2]; exact n2 j a v2
      · omega
section Rd
variable {u : Nat → Int32} {L c : Nat} {S T : Nat → Nat} {τ : rS}
theorem borS_tk {B : List tB} {i : Nat} {q : Nat × tB} (h : borS u c S T τ B i = .ok q) : tk τ B q.2.1 q.2.2.1 = false := by
  unfold borS at h
  by_cases z : isLW u c S T i 98 = true ∧ wn τ + B.length < 16
  · rw [if_pos z] at h
    cases y1 : numR u c S T (-1000) 1000 (i + 1) with
    | none => rw [y1] at h; cases h
    | some x =>
      rw [y1] at h
      dsimp only at h
      cases y2 : numR u c S T (-1000) 1000 (i + 2) with
      | none => rw [y2] at h; cases h
      | some y =>
        rw [y2] at h
        dsimp only at h
        cases w : tk τ B x y with
        | true => rw [w, if_pos rfl] at h; cases h
        | false =>
          rw [w, if_neg (by simp)] at h
          cases y3 : numR u c S T (-100000) 100000 (i + 3) with
          | none => rw [y3] at h; cases h
          | some t =>
            rw [y3] at h
            dsimp only at h
            cases y4 : lays u c S T 12 (i + 4) with
            | error b => rw [y4] at h; cases h
            | ok q0 => rw [y4] at h; cases h; exact w
  · rw [if_neg z] at h; cases h
theorem allS_dst : ∀ {r i : Nat} {B B' : List tB}, allS u c S T τ r i B = .ok B' → Dst τ B → Dst τ B' := by
  intro r
  induction r with
  | zero => intro i B B' h; rw [allS] at h; cases h
  | succ r ih =>
    intro i B B' h d
    rw [allS] at h
    by_cases z : c ≤ i
    · rw [if_pos z] at h; cases h; exact d
    · rw [if_neg z] at h
      cases y : borS u c S T τ B i with
      | error b => rw [y] at h; cases h
      | ok q => rw [y] at h; exact ih h (d.add (borS_tk y))
theorem c_read (W : WD u L c S T) (hB : VB τ) (hT : Tc u L τ) :
    (∀ b, allS u c S T τ 17 0 [] = .error b → ∃ σ', fX11_read τ = some ((-1) - nI b, uI (uI σ' 1 2 0) 38 1 0) ∧ Kp (oSt (wn τ)) τ σ' ∧ σ'.1 1 1 = nI (wn τ) ∧ b ≤ c) ∧
    (∀ B, allS u c S T τ 17 0 [] = .ok B → ∃ σ', fX11_read τ = some (nI B.length, if B.length = 0 then uI (uI σ' 1 2 0) 38 1 0 else uI (uI (uI (uI σ' 0 12 0) 1 1 (nI (wn τ + B.length))) 1 2 0) 38 1 0) ∧ Sg τ σ' B) := by
  have h16 := hB.2.1
  have hL := W.1
  have cL := W.2.1.1
  have A0 : At u L T (uI (uI τ 38 3 0) 38 4 (-1)) 0 := ⟨(hT.uI (by omega) _).uI (by omega) _, by rw [uI_nj (by omega), uI_eq]; rfl, by rw [uI_eq]; decide⟩
  have S0 : Sg τ (uI (uI τ 38 3 0) 38 4 (-1)) [] := ⟨(Kp.uI (by omega)).tr (Kp.uI (by omega)), by rw [uI_ne (by omega), uI_ne (by omega)]; exact hB.1, by rw [uI_ne (by omega), uI_ne (by omega)]; exact hB.2.2.1, by show wn τ + 0 ≤ 16; omega, fun j b hb => by cases hb⟩
  obtain ⟨g1, g2⟩ := c_allB W hB 17 0 1000 _ [] rfl (by omega) (by omega) (by omega) A0 S0
  have go : fX8_stageBorings τ = lX8_stageBorings_12 1000 (nI ([] : List tB).length) (uI (uI τ 38 3 0) 38 4 (-1)) := rfl
  unfold fX11_read
  rw [go]
  refine ⟨fun b hb => ?_, fun B hb => ?_⟩
  · obtain ⟨σ', e, f1, f2⟩ := g1 b hb
    refine ⟨σ', ?_, f1.1, f1.2.1, f2⟩
    rw [e, Option.bind_some]
    have e1 : (-1 : Int32).toInt = -1 := rfl
    have e0 : (0 : Int32).toInt = 0 := rfl
    have eb : (nI b).toInt = (b : Int) := ki (by omega)
    dsimp only
    rw [vI_d, if_pos (by rw [i_le, i_sub (by rw [e1, eb]; omega) (by rw [e1, eb]; omega), e1, e0, eb]; omega)]
    rfl
  · obtain ⟨σ', e, f1⟩ := g2 B hb
    have l16 := f1.2.2.2.1
    refine ⟨σ', ?_, f1⟩
    rw [e, Option.bind_some]
    dsimp only
    rw [vI_d]
    by_cases z : B.length = 0
    · rw [if_pos z, z, if_pos (by decide)]; rfl
    · rw [if_neg z, if_neg (by show ¬ nI _ ≤ nI 0; rw [kle (by omega) (by omega)]; omega), vS_d]
      unfold fX2_keepStaged
      have s1 : (uI σ' 0 12 0).1 1 1 + (uI σ' 0 12 0).1 1 2 = nI (wn τ + B.length) := by rw [uI_ne (by omega), uI_ne (by omega)]; exact f1.sum
      rw [s1]
      rfl
abbrev oRd (n : Nat) : Prop := n = 43 ∨ (64 ≤ n ∧ n ≤ 66) ∨ (68 ≤ n ∧ n ≤ 73)
def Rm (σ1 σ3 : rS) : Prop := Kp oRd σ1 σ3 ∧ ∀ j, j ≠ 0 → j ≠ 33 → j ≠ 39 → σ3.1 43 j = σ1.1 43 j
theorem m_read {σ1 υ : rS} (W : WD u L c S T) (h16 : wn τ ≤ 16) (hM : MB τ σ1) (t : Tq u L σ1) (e : fX12_findWords (uI σ1 43 0 0) = some ((), υ)) (w : Mw υ c S T) (k : Kw (uI σ1 43 0 0) υ) :
    (∀ b, b ≤ c → allS u c S T τ 17 0 [] = .error b → ∃ σ3, fX12_read σ1 = some ((-1) - nI b, uI σ3 43 31 0) ∧ Rm σ1 σ3) ∧
    (∀ B, allS u c S T τ 17 0 [] = .ok B → ∃ σ3, fX12_read σ1 = lX12_read_30 1000 0 (uI σ3 43 31 0) ∧ Rm σ1 σ3 ∧ Msg σ3 B) := by
  have hL := W.1
  have cL := W.2.1.1
  have t0 : Tq u L (uI σ1 43 0 0) := ⟨by rw [uI_nj (by omega)]; exact t.1, t.2⟩
  have tv := k.T t0
  have Mv : MB τ υ := MB.mo (υ := σ1) (by rw [k.2 2 (by omega), uI_nj (by omega)]) (fun n a b q => (k.1.1 n (by omega)).2.2 q) hM
  have K1 : Ck υ (uI υ 43 39 0) := ⟨Kp.uI (by omega), fun j hj => uI_nj hj⟩
  have M1 : Msg (uI υ 43 39 0) [] := ⟨by rw [uI_eq]; rfl, fun j b hb => by cases hb⟩
  obtain ⟨g1, g2⟩ := m_allB W tv w Mv 17 0 1000 _ [] rfl (by show wn τ + 0 ≤ 16; omega) (by omega) (by omega) K1 M1
  have rm : ∀ σ3, Ck υ σ3 → Rm σ1 σ3 := fun σ3 q => ⟨(((Kp.uI (by omega)).tr (k.1.mono (fun n z => by omega))).tr (q.1.mono (fun n z => by omega))), fun j j0 j33 j39 => by rw [q.2 j j39, k.2 j j33, uI_nj j0]⟩
  have go : fX12_check υ = lX12_check_9 1000 0 (nI 0) (uI υ 43 39 0) := rfl
  refine ⟨fun b bc hb => ?_, fun B hb => ?_⟩
  · obtain ⟨σ3, e3, q3⟩ := g1 b hb
    refine ⟨σ3, ?_, rm σ3 q3⟩
    unfold fX12_read
    rw [vS_d, e, Option.bind_some]
    dsimp only
    rw [go, e3, Option.bind_some]
    dsimp only
    rw [vI_d, vS_d, if_neg (kne1 (by omega))]
  · obtain ⟨σ3, e3, q3, r3⟩ := g2 B hb
    refine ⟨σ3, ?_, rm σ3 q3, r3⟩
    unfold fX12_read
    rw [vS_d, e, Option.bind_some]
    dsimp only
    rw [go, e3, Option.bind_some]
    dsimp only
    rw [vI_d, vS_d, if_pos rfl]
end Rd
