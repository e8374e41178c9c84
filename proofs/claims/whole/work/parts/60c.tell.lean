/-! THE CALLS THAT TELL. -/
def stepA (c m : rS → Option (Int32 × rS)) (σ : rS) : Prop := ∃ v σ1 σ2, c σ = some (v, σ1) ∧ m σ1 = some (v, σ2) ∧ Inv σ2
def stepB (c m : rS → Option (Int32 × rS)) (σ : rS) : Prop := ∃ k σ1 x σ2, c σ = some (k, σ1) ∧ m σ1 = some (x, σ2) ∧ σ2.1 43 0 = k ∧ (k = 0 → σ2.2.2.2.1 0 = x.toInt64) ∧ Inv σ2
def stepL (c : rS → Option (Int32 × rS)) (m : rS → Option (Int64 × rS)) (σ : rS) : Prop := ∃ k σ1 x σ2, c σ = some (k, σ1) ∧ m σ1 = some (x, σ2) ∧ σ2.1 43 0 = k ∧ (k = 0 → σ2.2.2.2.1 0 = x) ∧ Inv σ2
theorem in01 : inB 0 1 = true := rfl
theorem cl0 : (0 : Int32).toNatClampNeg = 0 := rfl
theorem uI_O (σ : rS) (i : Nat) (w : Int64) (n k : Nat) (v : Int32) : uI (uO σ i w) n k v = uO (uI σ n k v) i w := rfl
theorem uA_O (σ : rS) (i : Nat) (w : Int64) (n k : Nat) (v : Int32) : uA (uO σ i w) n k v = uO (uA σ n k v) i w := rfl
theorem tEq_O (σ : rS) (i : Nat) (w : Int64) : tEq (uO σ i w) σ := ⟨fun n _ => ⟨fun _ => rfl, fun _ => rfl, fun _ => rfl⟩, rfl, rfl⟩
theorem mEq_O (σ : rS) (i : Nat) (w : Int64) : mEq (uO σ i w) σ := fun n _ => ⟨fun _ => rfl, fun _ => rfl, fun _ => rfl⟩
theorem Inv.out {σ : rS} (h : Inv σ) (i : Nat) (w : Int64) : Inv (uO σ i w) := by
  have te := tEq_O σ i w
  refine ⟨VX.kp te h.1, MX.ct h.1 te (MX.mo (mEq_O σ i w) h.2.1), fun hf => ?_⟩
  exact FR.kp (h.2.2 hf) (fun n _ => ⟨fun _ => rfl, fun _ => rfl, fun _ => rfl⟩) rfl rfl rfl (fun n _ _ k => rfl) (agT.of ⟨fun _ => rfl, fun _ => rfl, fun _ => rfl⟩ (fun n _ _ => ⟨fun _ => rfl, fun _ => rfl, fun _ => rfl⟩) h.1.1.2.1)
/-- a refusal: only the model's note of it changes -/
theorem inv_no {σ : rS} (h : Inv σ) (k : Int32) : Inv (uI σ 43 0 k) := asmQ (σ1 := σ) (O2 := fun n => n = 43) (J := fun j => j = 0) h (Fr.rf _ _) rfl (Kp.uI (O := fun n => n = 43) rfl).1 rfl (fun j hj => uI_nj hj) (fun n z => Or.inl z) (fun j z => z)
theorem mnB_O (σ : rS) (i : Nat) (w : Int64) (m : Nat) (x y t : Int32) : mnB (uO σ i w) m x y t = uO (mnB σ m x y t) i w := rfl
theorem mnB_43 (σ : rS) (m : Nat) (x y t : Int32) (j : Nat) : (mnB σ m x y t).1 43 j = if j = 1 then 0 else if j = 2 then nI (m + 1) else if j = 0 then 0 else σ.1 43 j := by
  unfold mnB
  rw [uI_1, uI_1, uA_1, uA_1, uA_1, uA_1, uI_1]
  simp only [true_and]
theorem mnB_fr (σ : rS) (m : Nat) (x y t : Int32) : Kp (fun n => n = 43 ∨ (44 ≤ n ∧ n ≤ 47)) σ (mnB σ m x y t) := by
  unfold mnB
  exact ((((((Kp.uI (by omega)).tr (Kp.uA (by omega))).tr (Kp.uA (by omega))).tr (Kp.uA (by omega))).tr (Kp.uA (by omega))).tr (Kp.uI (by omega))).tr (Kp.uI (by omega))
/-- what is told anew makes the net old -/
theorem vg_old {σ σ1 σ2 : rS} (h : Inv σ) (z : ∀ j, σ1.1 0 j = if j = 12 then 0 else σ.1 0 j) (a : ∀ j, σ1.1 43 j = σ.1 43 j) (b : ∀ j, j = 12 ∨ j = 13 → σ2.1 43 j = σ1.1 43 j) (c : σ2.1 43 1 = 0) : (VG σ1 ∧ MG σ1 σ2) ∧ σ1.1 0 12 = 0 := by
  obtain ⟨g1, g2, g3⟩ := h.1.2.2.2.1
  obtain ⟨m1, m2, m3⟩ := h.2.1.2.2.2.1
  refine ⟨⟨⟨?_, ?_, Or.inl ?_⟩, ?_, ?_, ?_⟩, ?_⟩
  · rw [z, if_neg (by omega)]; exact g1
  · rw [z, if_neg (by omega)]; exact g2
  · rw [z, if_pos rfl]
  · rw [b 12 (by omega), a, z, if_neg (by omega)]; exact m1
  · rw [b 13 (by omega), a, z, if_neg (by omega)]; exact m2
  · rw [c, z, if_pos rfl]
  · rw [z, if_pos rfl]
theorem s_boring {σ : rS} (h : Inv σ) (x y t : Int32) : stepB (fL_boring x y t) (fX12_boring x y t) σ := by
  have hB := h.1.1
  have mB := h.2.1.1
  have h16 := hB.2.1
  have cb := c_boring hB x y t
  unfold stepB fL_boring
  by_cases c1 : okP x y = true ∧ okB (-100000) 100000 t = true ∧ tkn σ x y = false
  · rw [if_pos c1] at cb
    by_cases c2 : wn σ = 16
    · have mb := m_boring mB h16 x y t
      rw [if_pos c1, if_pos c2] at mb
      rw [if_pos c2] at cb
      rw [cb, Option.bind_some]
      refine ⟨2, σ, 0, uI σ 43 0 2, ?_, mb, uI_eq _ _ _ _, fun z => absurd z (by decide), inv_no h 2⟩
      dsimp only
      rw [if_neg (by decide), if_pos rfl]
    · rw [if_neg c2] at cb
      have kc := nwB_kp (σ := σ) (x := x) (y := y) (t := t) (by omega)
      have mB1 : MB σ (nwB σ x y t) := MB.mo (υ := σ) ((kc.1 43 (by omega)).1 2) (fun n a b k => (kc.1 n (by omega)).2.2 k) mB
      have V1 := nwB_V hB c1.1 c1.2.1 c1.2.2 c2
      have M1 : MB (nwB σ x y t) (mnB (nwB σ x y t) (wn σ) x y t) := mnB_M mB1 h16
      have a43 : ∀ j, (nwB σ x y t).1 43 j = σ.1 43 j := fun j => (kc.1 43 (by omega)).1 j
      have z0 : ∀ j, (nwB σ x y t).1 0 j = if j = 12 then 0 else σ.1 0 j := fun j => nwB_0 j
      have km := mnB_fr (nwB σ x y t) (wn σ) x y t
      have m43 := mnB_43 (nwB σ x y t) (wn σ) x y t
      have mb := m_boring (τ := σ) (σ := uO (nwB σ x y t) 0 (nI (wn σ)).toInt64) (MB.mo (υ := nwB σ x y t) rfl (fun n a b k => rfl) mB1) h16 x y t
      rw [if_pos c1, if_neg c2, mnB_O] at mb
      rw [cb, Option.bind_some]
      dsimp only
      rw [in01, if_pos rfl, vS_d, cl0]
      generalize hn : nwB σ x y t = σ1 at kc mB1 V1 M1 a43 z0 km m43 mb ⊢
      generalize hs : mnB σ1 (wn σ) x y t = σ2 at M1 km m43 mb ⊢
      have vg := vg_old h z0 a43 (σ2 := σ2) (fun j hj => by rw [m43, if_neg (by omega), if_neg (by omega), if_neg (by omega)]) (by rw [m43, if_pos rfl])
      refine ⟨0, _, nI (wn σ), uO σ2 0 (nI (wn σ)).toInt64, rfl, mb, ?_, fun _ => rfl, Inv.out ?_ _ _⟩
      · show σ2.1 43 0 = 0
        rw [m43, if_neg (by omega), if_neg (by omega), if_pos rfl]
      · exact asm (O1 := fun n => n = 0 ∨ oB n) (O2 := fun n => n = 43 ∨ (44 ≤ n ∧ n ≤ 47)) (J := fun j => j = 0 ∨ j = 1 ∨ j = 2) h kc.1 km.1 (by rw [km.2]) (fun j hj => by rw [m43, if_neg (by omega), if_neg (by omega), if_neg (by omega)]) (fun n z => by omega) (fun n z => by omega) (Or.inl ⟨V1, M1⟩) (Or.inr ⟨by omega, by omega⟩) (Or.inr ⟨fun n z => by omega, by omega, by omega⟩) (Or.inl vg.1) (Or.inr ⟨fun n z => by omega, by omega, by omega⟩) (Or.inr ⟨(kc.1 38 (by omega)).1 1, by omega, by omega, by omega⟩) (Or.inr ⟨by omega, by rw [kc.2], by omega, by omega⟩) (Or.inl vg.2)
  · rw [if_neg c1] at cb
    have mb := m_boring mB h16 x y t
    rw [if_neg c1] at mb
    rw [cb, Option.bind_some]
    exact ⟨1, σ, 0, uI σ 43 0 1, rfl, mb, uI_eq _ _ _ _, fun z => absurd z (by decide), inv_no h 1⟩
