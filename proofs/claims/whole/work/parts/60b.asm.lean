/-! ONE CALL KEEPS THE INVARIANT: the parts that it leaves, and those that it changes. -/
def Fr (O : Nat → Prop) (σ τ : rS) : Prop := ∀ n, ¬ O n → Eqo τ σ n
theorem Fr.rf (O : Nat → Prop) (σ : rS) : Fr O σ σ := fun n _ => Eqo.rf σ n
theorem Fr.tr {O : Nat → Prop} {σ τ υ : rS} (h1 : Fr O σ τ) (h2 : Fr O τ υ) : Fr O σ υ := fun n hn => (h2 n hn).tr (h1 n hn)
theorem Fr.uO {O : Nat → Prop} {σ : rS} {i : Nat} {v : Int64} : Fr O σ (uO σ i v) := fun n _ => ⟨fun _ => rfl, fun _ => rfl, fun _ => rfl⟩
theorem asm {σ σ1 σ2 : rS} {O1 O2 J : Nat → Prop} (h : Inv σ) (k1 : Fr O1 σ σ1) (k2 : Fr O2 σ1 σ2) (hb : σ2.2.2.2.2 = σ1.2.2.2.2) (j2 : ∀ j, ¬ J j → σ2.1 43 j = σ1.1 43 j) (hO1 : ∀ n, O1 n → ¬ isM n) (hO2 : ∀ n, O2 n → isM n)
  (pB : (VB σ1 ∧ MB σ1 σ2) ∨ ((∀ n, O1 n → ¬ oB n) ∧ (∀ n, O2 n → ¬ (44 ≤ n ∧ n ≤ 49)) ∧ ¬ J 2))
  (pA : (VA σ1 ∧ MA σ1 σ2) ∨ (¬ O1 41 ∧ ¬ O2 50))
  (pF : (VF σ1 ∧ MF σ1 σ2) ∨ ((∀ n, O1 n → ¬ (n = 3 ∨ (144 ≤ n ∧ n < 160))) ∧ ¬ O2 51 ∧ ¬ J 10))
  (pG : (VG σ1 ∧ MG σ1 σ2) ∨ (¬ O1 0 ∧ ¬ J 12 ∧ ¬ J 13 ∧ ¬ J 1))
  (pW : (VW σ1 ∧ MW σ1 σ2) ∨ ((∀ n, O1 n → ¬ (6 ≤ n ∧ n ≤ 9)) ∧ ¬ O2 52 ∧ ¬ J 14))
  (pT : (VT σ1 ∧ MT σ1 σ2) ∨ (σ1.1 38 1 = σ.1 38 1 ∧ ¬ O1 39 ∧ ¬ O2 63 ∧ ¬ J 31))
  (pP : (VP σ1 ∧ MP σ1 σ2) ∨ (¬ O1 40 ∧ σ1.2.2.2.2 = σ.2.2.2.2 ∧ ¬ O2 67 ∧ ¬ J 37))
  (pN : σ1.1 0 12 = 0 ∨ (σ1.1 0 12 = σ.1 0 12 ∧ (∀ n, O1 n → ¬ isF n) ∧ (∀ n, O2 n → ¬ (53 ≤ n ∧ n ≤ 61)) ∧ ¬ J 16 ∧ ¬ J 23 ∧ ¬ J 25 ∧ agT σ1 σ)) : Inv σ2 := by
  obtain ⟨⟨hB, hA, hF, hG, hW, hT, hP⟩, ⟨mB, mA, mF, mG, mW, mT, mP⟩, hN⟩ := h
  have a1 : ∀ n, isM n → Eqo σ1 σ n := fun n hn => k1 n (fun z => hO1 n z hn)
  have f43 : ∀ j, ¬ J j → σ2.1 43 j = σ.1 43 j := fun j hj => by rw [j2 j hj, (a1 43 (by omega)).1]
  have arr : ∀ n, isM n → ¬ O2 n → Eqo σ2 σ n := fun n h1 h2 => (k2 n h2).tr (a1 n h1)
  have te : tEq σ2 σ1 := ⟨fun n hn => k2 n (fun z => (isM_isT (hO2 n z)).1 hn), (k2 38 (fun z => (isM_isT (hO2 38 z)).2 rfl)).1 1, hb⟩
  have VX1 : VX σ1 := by
    refine ⟨?_, ?_, ?_, ?_, ?_, ?_, ?_⟩
    · rcases pB with p | ⟨p1, p2, p3⟩
      · exact p.1
      · exact VB.kp (fun n hn => k1 n (fun z => p1 n z hn)) hB
    · rcases pA with p | ⟨p1, p2⟩
      · exact p.1
      · exact VA.kp (k1 41 p1) hA
    · rcases pF with p | ⟨p1, p2, p3⟩
      · exact p.1
      · exact VF.kp (fun n hn => k1 n (fun z => p1 n z hn)) hF
    · rcases pG with p | ⟨p1, p2⟩
      · exact p.1
      · exact VG.kp (k1 0 p1) hG
    · rcases pW with p | ⟨p1, p2, p3⟩
      · exact p.1
      · exact VW.kp (fun n x y => k1 n (fun z => p1 n z ⟨x, y⟩)) hW
    · rcases pT with p | ⟨p1, p2, p3, p4⟩
      · exact p.1
      · exact VT.kp p1 (k1 39 p2) hT
    · rcases pP with p | ⟨p1, p2, p3, p4⟩
      · exact p.1
      · exact VP.kp (k1 40 p1) p2 hP
  have MX1 : MX σ1 σ2 := by
    refine ⟨?_, ?_, ?_, ?_, ?_, ?_, ?_⟩
    · rcases pB with p | ⟨p1, p2, p3⟩
      · exact p.2
      · exact MB.ct hB.2.1 (fun n hn => k1 n (fun z => p1 n z hn)) (MB.mo (υ := σ) (f43 2 p3) (fun n x y k => (arr n (by omega) (fun z => p2 n z ⟨x, y⟩)).2.2 k) mB)
    · rcases pA with p | ⟨p1, p2⟩
      · exact p.2
      · exact MA.ct (k1 41 p1) (MA.mo (υ := σ) (fun k => (arr 50 (by omega) p2).2.2 k) mA)
    · rcases pF with p | ⟨p1, p2, p3⟩
      · exact p.2
      · exact MF.ct hF.2.1 (fun n hn => k1 n (fun z => p1 n z hn)) (MF.mo (υ := σ) (f43 10 p3) (fun k => (arr 51 (by omega) p2).2.2 k) mF)
    · rcases pG with p | ⟨p1, p2, p3, p4⟩
      · exact p.2
      · exact MG.ct (k1 0 p1) (MG.mo (υ := σ) (f43 12 p2) (f43 13 p3) (f43 1 p4) mG)
    · rcases pW with p | ⟨p1, p2, p3⟩
      · exact p.2
      · exact MW.ct (fun n x y => k1 n (fun z => p1 n z ⟨x, y⟩)) (MW.mo (υ := σ) (f43 14 p3) (fun k => (arr 52 (by omega) p2).2.2 k) mW)
    · rcases pT with p | ⟨p1, p2, p3, p4⟩
      · exact p.2
      · exact MT.ct p1 (k1 39 p2) (MT.mo (υ := σ) (f43 31 p4) (fun k => (arr 63 (by omega) p3).2.2 k) mT)
    · rcases pP with p | ⟨p1, p2, p3, p4⟩
      · exact p.2
      · exact MP.ct (k1 40 p1) p2 (MP.mo (υ := σ) (f43 37 p4) (fun k => (arr 67 (by omega) p3).2.2 k) mP)
  refine ⟨VX.kp te VX1, MX.ct VX1 te MX1, fun hf => ?_⟩
  have e12 : σ2.1 0 12 = σ1.1 0 12 := (te.1 0 (by omega)).1 12
  rcases pN with p | ⟨p1, p2, p3, p4, p5, p6, p7⟩
  · rw [e12, p] at hf
    exact absurd hf (by decide)
  · rw [e12, p1] at hf
    refine FR.kp (hN hf) (fun n hn => (k2 n (fun z => ?_)).tr (k1 n (fun z => p2 n z hn))) (f43 16 p4) (f43 23 p5) (f43 25 p6) (fun n x y k => (arr n (by omega) (fun z => p3 n z ⟨x, y⟩)).2.2 k) ?_
    · have := hO2 n z
      omega
    · have h16 := VX1.1.2.1
      exact (agT.of (te.1 1 (by omega)) (fun n x y => te.1 n (by omega)) h16).tr p7
/-- a call that tells nothing new: only scratch objects change -/
abbrev isZ (n : Nat) : Prop := n = 18 ∨ n = 20 ∨ n = 21 ∨ n = 24 ∨ (33 ≤ n ∧ n ≤ 37)
theorem asmQ {σ σ1 σ2 : rS} {O2 J : Nat → Prop} (h : Inv σ) (k1 : Fr isZ σ σ1) (hb1 : σ1.2.2.2.2 = σ.2.2.2.2) (k2 : Fr O2 σ1 σ2) (hb : σ2.2.2.2.2 = σ1.2.2.2.2) (j2 : ∀ j, ¬ J j → σ2.1 43 j = σ1.1 43 j) (hO2 : ∀ n, O2 n → n = 43 ∨ n = 62) (hJ : ∀ j, J j → j = 0) : Inv σ2 := by
  have h16 := h.1.1.2.1
  have nJ : ∀ j, j ≠ 0 → ¬ J j := fun j hj z => hj (hJ j z)
  have nO : ∀ n, n ≠ 43 → n ≠ 62 → ¬ O2 n := fun n h1 h2 z => by
    rcases hO2 n z with y | y
    · exact h1 y
    · exact h2 y
  exact asm h k1 k2 hb j2 (fun n z => by omega) (fun n z => by have := hO2 n z; omega) (Or.inr ⟨fun n z => by omega, fun n z => by have := hO2 n z; omega, nJ 2 (by omega)⟩) (Or.inr ⟨by omega, nO 50 (by omega) (by omega)⟩) (Or.inr ⟨fun n z => by omega, nO 51 (by omega) (by omega), nJ 10 (by omega)⟩) (Or.inr ⟨by omega, nJ 12 (by omega), nJ 13 (by omega), nJ 1 (by omega)⟩) (Or.inr ⟨fun n z => by omega, nO 52 (by omega) (by omega), nJ 14 (by omega)⟩) (Or.inr ⟨(k1 38 (by omega)).1 1, by omega, nO 63 (by omega) (by omega), nJ 31 (by omega)⟩) (Or.inr ⟨by omega, hb1, nO 67 (by omega) (by omega), nJ 37 (by omega)⟩) (Or.inr ⟨(k1 0 (by omega)).1 12, fun n z => by omega, fun n z => by have := hO2 n z; omega, nJ 16 (by omega), nJ 23 (by omega), nJ 25 (by omega), agT.of (k1 1 (by omega)) (fun n x y => k1 n (by omega)) h16⟩)
