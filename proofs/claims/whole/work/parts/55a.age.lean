/-! age, lens, within, fault, layer: both halves -/
theorem ok_idx {lo hi : Int} {a : Int32} (h : okR lo hi a) (h0 : 0 ≤ lo) : a = nI a.toNatClampNeg ∧ (a.toNatClampNeg : Int) = a.toInt ∧ (a.toNatClampNeg : Int) ≤ hi := by
  unfold okR at h
  refine ⟨i_nI (by omega), i_cl (by omega), ?_⟩
  rw [i_cl (by omega)]
  exact h.2
theorem inB_ok {a : Int32} {L : Nat} (h0 : 0 ≤ a.toInt) (h1 : a.toInt < L) : inB a L = true := by
  have h2 := i_cl h0
  have h3 := i_hi a
  rw [i_nI h0, kinB (by omega)]
  exact decide_eq_true (by omega)
def nwA (σ : rS) (a v : Int32) : rS := uA (uI σ 0 12 0) 41 a.toNatClampNeg v
def mnA (σ : rS) (a v : Int32) : rS := uI (uA (uI σ 43 0 0) 50 a.toNatClampNeg v) 43 1 0
theorem c_age (a v : Int32) (σ : rS) : fX11_age a v σ = if okB 0 7 a = true ∧ okB 0 99 v = true then some (1, nwA σ a v) else some (0, σ) := by
  unfold fX11_age jX11_age_17
  rw [c_kind, Option.bind_some]
  dsimp only
  rw [c_from, Option.bind_some]
  simp only [bI_0, vS_d]
  have e0 : okB ((0 : Int32).toInt) ((99 : Int32).toInt) v = okB 0 99 v := rfl
  rw [e0]
  cases h1 : okB 0 7 a with
  | false => simp
  | true =>
    cases h2 : okB 0 99 v with
    | false => simp
    | true =>
      have h := okB_t.mp h1
      unfold okR at h
      simp only [Bool.true_eq_false, if_false, and_self, if_true, inB_ok (L := 8) h.1 (by omega)]
      rfl
theorem m_age (a v : Int32) (σ : rS) : fX12_age a v σ = if okB 0 7 a = true ∧ okB 0 99 v = true then some (1, mnA σ a v) else some (0, uI σ 43 0 0) := by
  unfold fX12_age jX12_age_25
  rw [vS_d, m_from, Option.bind_some]
  dsimp only
  rw [m_from, Option.bind_some]
  simp only [bI_0, vS_d]
  have e0 : okB ((0 : Int32).toInt) ((99 : Int32).toInt) v = okB 0 99 v := rfl
  have e1 : okB ((0 : Int32).toInt) ((7 : Int32).toInt) a = okB 0 7 a := rfl
  rw [e0, e1]
  cases h1 : okB 0 7 a with
  | false => simp
  | true =>
    cases h2 : okB 0 99 v with
    | false => simp
    | true =>
      have h := okB_t.mp h1
      unfold okR at h
      simp only [Bool.true_eq_false, if_false, and_self, if_true, inB_ok (L := 8) h.1 (by omega)]
      rfl
section AgeFacts
variable {σ τ : rS} {a v : Int32}
theorem nwA_V (hv : VA σ) (h2 : okB 0 99 v = true) : VA (nwA σ a v) := by
  intro k hk
  unfold nwA
  rw [uA_3]
  by_cases h : k = a.toNatClampNeg
  · rw [if_pos ⟨rfl, h⟩]; exact okB_t.mp h2
  · rw [if_neg (fun z => h z.2)]; exact hv k hk
theorem mnA_M (hm : MA τ σ) : MA (nwA τ a v) (mnA σ a v) := by
  intro k hk
  unfold nwA mnA
  rw [uI_2, uA_3, uA_3]
  by_cases h : k = a.toNatClampNeg
  · rw [if_pos ⟨rfl, h⟩, if_pos ⟨rfl, h⟩]
  · rw [if_neg (fun z => h z.2), if_neg (fun z => h z.2)]; exact hm k hk
theorem nwA_kp : Kp (fun n => n = 0 ∨ n = 41) σ (nwA σ a v) := (Kp.uI (Or.inl rfl)).tr (Kp.uA (Or.inr rfl))
theorem nwA_0 (k : Nat) : (nwA σ a v).1 0 k = if k = 12 then 0 else σ.1 0 k := by
  unfold nwA
  rw [uA_1, uI_1]
  by_cases h : k = 12
  · rw [if_pos ⟨rfl, h⟩, if_pos h]
  · rw [if_neg (fun z => h z.2), if_neg h]
theorem mnA_kp : Kp isM σ (mnA σ a v) := ((Kp.uI (by omega)).tr (Kp.uA (by omega))).tr (Kp.uI (by omega))
end AgeFacts
theorem c_lens (a : Int32) (σ : rS) : fX11_lens a σ = some (bI (okB 1 100 a), if okB 1 100 a = true then uI σ 0 10 a else σ) := by
  unfold fX11_lens
  rw [c_from, Option.bind_some]
  simp only [bI_0, vS_d]
  have e0 : okB ((1 : Int32).toInt) ((100 : Int32).toInt) a = okB 1 100 a := rfl
  rw [e0]
  cases okB 1 100 a <;> rfl
theorem c_within (a : Int32) (σ : rS) : fX11_within a σ = some (bI (okB 0 10000 a), if okB 0 10000 a = true then uI σ 0 11 a else σ) := by
  unfold fX11_within
  rw [c_from, Option.bind_some]
  simp only [bI_0, vS_d]
  have e0 : okB ((0 : Int32).toInt) ((10000 : Int32).toInt) a = okB 0 10000 a := rfl
  rw [e0]
  cases okB 0 10000 a <;> rfl
theorem m_lens (a : Int32) (σ : rS) : fX12_lens a σ = some (bI (okB 1 100 a), uI (uI σ 43 0 0) 43 12 (if okB 1 100 a = true then a else σ.1 43 12)) := by
  unfold fX12_lens jX12_lens_26
  rw [vS_d, m_from, Option.bind_some]
  simp only [bI_0, bI_01, if_true, vS_d, vI_d]
  have e0 : okB ((1 : Int32).toInt) ((100 : Int32).toInt) a = okB 1 100 a := rfl
  rw [e0, uI_nj (show (12 : Nat) ≠ 0 by omega)]
  cases okB 1 100 a <;> rfl
theorem m_within (a : Int32) (σ : rS) : fX12_within a σ = some (bI (okB 0 10000 a), uI (uI σ 43 0 0) 43 13 (if okB 0 10000 a = true then a else σ.1 43 13)) := by
  unfold fX12_within jX12_within_27
  rw [vS_d, m_from, Option.bind_some]
  simp only [bI_0, bI_01, if_true, vS_d, vI_d]
  have e0 : okB ((0 : Int32).toInt) ((10000 : Int32).toInt) a = okB 0 10000 a := rfl
  rw [e0, uI_nj (show (13 : Nat) ≠ 0 by omega)]
  cases okB 0 10000 a <;> rfl
/-- faults -/
def adF (σ : rS) (m : Nat) (x0 y0 x1 y1 : Int32) : rS := uI (uI (uI (uI σ (144 + 2 * m) 0 x0) (144 + 2 * m) 1 y0) (145 + 2 * m) 0 x1) (145 + 2 * m) 1 y1
def nwF (σ : rS) (x0 y0 x1 y1 : Int32) : rS := uI (adF (uI σ 0 12 0) (wf σ) x0 y0 x1 y1) 3 2 (nI (wf σ + 1))
def mnF (σ : rS) (m : Nat) (x0 y0 x1 y1 : Int32) : rS := uI (uI (uA (uA (uA (uA (uI σ 43 0 0) 51 (4 * m) x0) 51 (4 * m + 1) y0) 51 (4 * m + 2) x1) 51 (4 * m + 3) y1) 43 10 (nI (m + 1))) 43 1 0
def okW (x0 y0 x1 y1 : Int32) : Bool := okP x0 y0 && okP x1 y1 && !(decide (x0 = x1 ∧ y0 = y1))
theorem adF_o {σ : rS} {m : Nat} {x0 y0 x1 y1 : Int32} {n j : Nat} (h : n ≠ 144 + 2 * m) (h2 : n ≠ 145 + 2 * m) : (adF σ m x0 y0 x1 y1).1 n j = σ.1 n j := by
  unfold adF
  rw [uI_ne h2, uI_ne h2, uI_ne h, uI_ne h]
theorem c_add {σ : rS} {m : Nat} (hm : σ.1 3 2 = nI m) (h8 : m < 8) (x0 y0 x1 y1 : Int32) : fX3_add x0 y0 x1 y1 σ = some ((), uI (adF σ m x0 y0 x1 y1) 3 2 (nI (m + 1))) := by
  unfold fX3_add jX3_add_48 fX7_moveTo
  have e1 : ((8 : Int32) ≤ nI m) = False := eq_false (fun z => by have := (kle (a := 8) (b := m) (by omega) (by omega)).mp z; omega)
  have e2 : inB (nI m) 8 = true := by rw [kinB (by omega)]; exact decide_eq_true h8
  have e3 : (nI m).toNatClampNeg = m := kc (by omega)
  have q1 : isPl (144 + 2 * m) = True := eq_true (f0_ok h8)
  have q2 : isPl (145 + 2 * m) = True := eq_true (f1_ok h8)
  have r1 : ∀ (υ : rS) (k : Nat) (v : Int32), (uI υ (144 + 2 * m) k v).1 3 2 = υ.1 3 2 := fun υ k v => uI_ne (by omega)
  have r2 : ∀ (υ : rS) (k : Nat) (v : Int32), (uI υ (145 + 2 * m) k v).1 3 2 = υ.1 3 2 := fun υ k v => uI_ne (by omega)
  have e4 : nI m + 1 = nI (m + 1) := kadd m 1
  simp only [hm, e1, e2, e3, if_false, if_true, q1, q2, vS_d, Option.bind_some, r1, r2, e4]
  rfl
theorem c_fault {σ : rS} (hv : VF σ) (x0 y0 x1 y1 : Int32) : fX11_fault x0 y0 x1 y1 σ = if okW x0 y0 x1 y1 = true ∧ wf σ < 8 then some (1, nwF σ x0 y0 x1 y1) else some (0, σ) := by
  unfold fX11_fault jX11_fault_28 jX11_fault_32 jX11_fault_33 jX11_fault_52
  rw [c_place, Option.bind_some]
  dsimp only
  rw [c_place, Option.bind_some]
  have e1 : (nI (wf σ) < 8) = (wf σ < 8) := propext (klt (b := 8) (by have := hv.2.1; omega) (by omega))
  have d10 : ((1 : Int32) = 0) = False := eq_false (by decide)
  have d00 : ((0 : Int32) = 0) = True := eq_true rfl
  simp only [bI_0, vS_d, hv.1, e1, d10, d00, if_true, if_false]
  unfold okW
  have main : wf σ < 8 → (fX3_add x0 y0 x1 y1 (uI σ 0 12 0)).bind (fun q10 => some ((1 : Int32), q10.2)) = some (1, nwF σ x0 y0 x1 y1) := by
    intro h8
    rw [c_add (by rw [uI_ne (by omega)]; exact hv.1) h8]
    rfl
  by_cases h8 : wf σ < 8
  · rw [main h8]
    simp only [h8, if_true]
    cases okP x0 y0 <;> cases okP x1 y1 <;> by_cases a1 : x0 = x1 <;> by_cases a2 : y0 = y1 <;> simp [a1, a2]
  · simp only [h8, if_false]
    cases okP x0 y0 <;> cases okP x1 y1 <;> by_cases a1 : x0 = x1 <;> by_cases a2 : y0 = y1 <;> simp [a1, a2]
theorem m_fault {τ σ : rS} (hM : MF τ σ) (h8 : wf τ ≤ 8) (x0 y0 x1 y1 : Int32) : fX12_fault x0 y0 x1 y1 σ = if okW x0 y0 x1 y1 = true ∧ wf τ < 8 then some (1, mnF σ (wf τ) x0 y0 x1 y1) else some (0, uI σ 43 0 0) := by
  unfold fX12_fault jX12_fault_42
  rw [vS_d, m_place, Option.bind_some]
  dsimp only
  rw [m_place, Option.bind_some]
  simp only [bI_0]
  have main : jX12_fault_33 x0 y0 x1 y1 (uI σ 43 0 0) = if wf τ < 8 then some (1, mnF σ (wf τ) x0 y0 x1 y1) else some (0, uI σ 43 0 0) := by
    unfold jX12_fault_33 jX12_fault_42
    have e0 : (uI σ 43 0 0).1 43 10 = nI (wf τ) := by rw [uI_nj (by omega)]; exact hM.1
    have e1 : (nI (wf τ) = 8) = (¬ wf τ < 8) := propext ((keq (b := 8) (by omega) (by omega)).trans (by omega))
    have f1 : (4 : Int32) * nI (wf τ) = nI (4 * wf τ) := kmul 4 _
    have f2 : nI (4 * wf τ) + 1 = nI (4 * wf τ + 1) := kadd _ 1
    have f3 : nI (4 * wf τ) + 2 = nI (4 * wf τ + 2) := kadd _ 2
    have f4 : nI (4 * wf τ) + 3 = nI (4 * wf τ + 3) := kadd _ 3
    have f5 : nI (wf τ) + 1 = nI (wf τ + 1) := kadd _ 1
    by_cases h : wf τ < 8
    · have g1 : inB (nI (4 * wf τ)) 32 = true := by rw [kinB (by omega)]; exact decide_eq_true (by omega)
      have g2 : inB (nI (4 * wf τ + 1)) 32 = true := by rw [kinB (by omega)]; exact decide_eq_true (by omega)
      have g3 : inB (nI (4 * wf τ + 2)) 32 = true := by rw [kinB (by omega)]; exact decide_eq_true (by omega)
      have g4 : inB (nI (4 * wf τ + 3)) 32 = true := by rw [kinB (by omega)]; exact decide_eq_true (by omega)
      have c1 : (nI (4 * wf τ)).toNatClampNeg = 4 * wf τ := kc (by omega)
      have c2 : (nI (4 * wf τ + 1)).toNatClampNeg = 4 * wf τ + 1 := kc (by omega)
      have c3 : (nI (4 * wf τ + 2)).toNatClampNeg = 4 * wf τ + 2 := kc (by omega)
      have c4 : (nI (4 * wf τ + 3)).toNatClampNeg = 4 * wf τ + 3 := kc (by omega)
      simp only [vS_d, uA_1, e0, e1, h, not_true_eq_false, if_false, if_true, f1, f2, f3, f4, f5, g1, g2, g3, g4, c1, c2, c3, c4]
      rfl
    · simp only [e0, e1, h, not_false_eq_true, if_true, if_false]
  rw [main]
  unfold okW
  by_cases h : wf τ < 8
  · simp only [h, if_true]
    cases okP x0 y0 <;> cases okP x1 y1 <;> by_cases a1 : x0 = x1 <;> by_cases a2 : y0 = y1 <;> simp [a1, a2]
  · simp only [h, if_false]
    cases okP x0 y0 <;> cases okP x1 y1 <;> by_cases a1 : x0 = x1 <;> by_cases a2 : y0 = y1 <;> simp [a1, a2]
section FaultFacts
variable {σ τ : rS} {x0 y0 x1 y1 : Int32}
theorem nwF_n (h8 : wf σ ≤ 8) : wf (nwF σ x0 y0 x1 y1) = wf σ + 1 := by
  show ((nwF σ x0 y0 x1 y1).1 3 2).toNatClampNeg = _
  unfold nwF
  rw [uI_eq, kc (by omega)]
theorem adF_0 {υ : rS} {m k : Nat} : (adF υ m x0 y0 x1 y1).1 (144 + 2 * k) 0 = if k = m then x0 else υ.1 (144 + 2 * k) 0 := by
  unfold adF
  simp only [uI_1]
  grind
theorem adF_1 {υ : rS} {m k : Nat} : (adF υ m x0 y0 x1 y1).1 (144 + 2 * k) 1 = if k = m then y0 else υ.1 (144 + 2 * k) 1 := by
  unfold adF
  simp only [uI_1]
  grind
theorem adF_2 {υ : rS} {m k : Nat} : (adF υ m x0 y0 x1 y1).1 (145 + 2 * k) 0 = if k = m then x1 else υ.1 (145 + 2 * k) 0 := by
  unfold adF
  simp only [uI_1]
  grind
theorem adF_3 {υ : rS} {m k : Nat} : (adF υ m x0 y0 x1 y1).1 (145 + 2 * k) 1 = if k = m then y1 else υ.1 (145 + 2 * k) 1 := by
  unfold adF
  simp only [uI_1]
  grind
theorem nwF_r {k : Nat} : (nwF σ x0 y0 x1 y1).1 (144 + 2 * k) 0 = (if k = wf σ then x0 else σ.1 (144 + 2 * k) 0) ∧ (nwF σ x0 y0 x1 y1).1 (144 + 2 * k) 1 = (if k = wf σ then y0 else σ.1 (144 + 2 * k) 1) ∧ (nwF σ x0 y0 x1 y1).1 (145 + 2 * k) 0 = (if k = wf σ then x1 else σ.1 (145 + 2 * k) 0) ∧ (nwF σ x0 y0 x1 y1).1 (145 + 2 * k) 1 = (if k = wf σ then y1 else σ.1 (145 + 2 * k) 1) := by
  unfold nwF
  rw [uI_ne (by omega), uI_ne (by omega), uI_ne (by omega), uI_ne (by omega), adF_0, adF_1, adF_2, adF_3, uI_ne (by omega), uI_ne (by omega), uI_ne (by omega), uI_ne (by omega)]
  exact ⟨rfl, rfl, rfl, rfl⟩
theorem nwF_V (hv : VF σ) (hw : okW x0 y0 x1 y1 = true) (h8 : wf σ < 8) : VF (nwF σ x0 y0 x1 y1) := by
  have hn := nwF_n (σ := σ) (x0 := x0) (y0 := y0) (x1 := x1) (y1 := y1) hv.2.1
  unfold okW okP at hw
  simp only [Bool.and_eq_true, okB_t] at hw
  refine ⟨by rw [hn]; unfold nwF; rw [uI_eq], by omega, fun k hk => ?_⟩
  rw [hn] at hk
  obtain ⟨a, b, c, d⟩ := nwF_r (σ := σ) (x0 := x0) (y0 := y0) (x1 := x1) (y1 := y1) (k := k)
  rw [a, b, c, d]
  by_cases h : k = wf σ
  · simp only [if_pos h]
    exact ⟨hw.1.1.1, hw.1.1.2, hw.1.2.1, hw.1.2.2⟩
  · simp only [if_neg h]
    exact hv.2.2 k (by omega)
theorem mnF_M (hM : MF τ σ) (h8 : wf τ ≤ 8) : MF (nwF τ x0 y0 x1 y1) (mnF σ (wf τ) x0 y0 x1 y1) := by
  have hn := nwF_n (σ := τ) (x0 := x0) (y0 := y0) (x1 := x1) (y1 := y1) h8
  refine ⟨?_, fun k hk => ?_⟩
  · rw [hn]
    unfold mnF
    rw [uI_nj (by omega), uI_eq]
  · rw [hn] at hk
    obtain ⟨a, b, c, d⟩ := nwF_r (σ := τ) (x0 := x0) (y0 := y0) (x1 := x1) (y1 := y1) (k := k)
    rw [a, b, c, d]
    unfold mnF
    simp only [uI_2, uA_3]
    by_cases h : k = wf τ
    · subst h
      refine ⟨?_, ?_, ?_, ?_⟩ <;> grind
    · have := hM.2 k (by omega)
      refine ⟨?_, ?_, ?_, ?_⟩ <;> grind
theorem nwF_kp (h8 : wf σ < 8) : Kp (fun n => n = 0 ∨ n = 3 ∨ (144 ≤ n ∧ n < 160)) σ (nwF σ x0 y0 x1 y1) := by
  unfold nwF adF
  refine Kp.tr ?_ (Kp.uI (by omega))
  refine Kp.tr ?_ (Kp.uI (by omega))
  refine Kp.tr ?_ (Kp.uI (by omega))
  refine Kp.tr ?_ (Kp.uI (by omega))
  refine Kp.tr ?_ (Kp.uI (by omega))
  exact Kp.uI (by omega)
theorem nwF_0 (k : Nat) : (nwF σ x0 y0 x1 y1).1 0 k = if k = 12 then 0 else σ.1 0 k := by
  unfold nwF
  rw [uI_ne (by omega), adF_o (by omega) (by omega), uI_1]
  by_cases h : k = 12
  · rw [if_pos ⟨rfl, h⟩, if_pos h]
  · rw [if_neg (fun z => h z.2), if_neg h]
theorem mnF_kp {m : Nat} : Kp isM σ (mnF σ m x0 y0 x1 y1) := by
  unfold mnF
  refine Kp.tr ?_ (Kp.uI (by omega))
  refine Kp.tr ?_ (Kp.uI (by omega))
  refine Kp.tr ?_ (Kp.uA (by omega))
  refine Kp.tr ?_ (Kp.uA (by omega))
  refine Kp.tr ?_ (Kp.uA (by omega))
  refine Kp.tr ?_ (Kp.uA (by omega))
  exact Kp.uI (by omega)
end FaultFacts
