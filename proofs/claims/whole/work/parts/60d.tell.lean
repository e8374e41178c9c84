/-! THE OTHER CALLS THAT TELL. -/
theorem mnL_O (σ : rS) (i : Nat) (w : Int64) (b l : Nat) (k v : Int32) : mnL (uO σ i w) b l k v = uO (mnL σ b l k v) i w := rfl
theorem mnL_43 (σ : rS) (b l : Nat) (k v : Int32) (j : Nat) : (mnL σ b l k v).1 43 j = if j = 1 then 0 else if j = 0 then 0 else σ.1 43 j := by
  unfold mnL
  rw [uI_1, uA_1, uA_1, uA_1, uI_1]
  simp only [true_and]
theorem mnL_fr (σ : rS) (b l : Nat) (k v : Int32) : Kp (fun n => n = 43 ∨ (44 ≤ n ∧ n ≤ 49)) σ (mnL σ b l k v) := by
  unfold mnL
  exact ((((Kp.uI (by omega)).tr (Kp.uA (by omega))).tr (Kp.uA (by omega))).tr (Kp.uA (by omega))).tr (Kp.uI (by omega))
theorem s_layer {σ : rS} (h : Inv σ) (a k v : Int32) : stepB (fL_layer a k v) (fX12_layer a k v) σ := by
  have hB := h.1.1
  have mB := h.2.1.1
  have h16 := hB.2.1
  have cb := c_layer hB a k v
  unfold stepB fL_layer
  by_cases c1 : okN (wn σ) a = true
  · rw [if_pos c1] at cb
    obtain ⟨ea, la⟩ := okN_i c1
    by_cases c2 : okB 0 7 k = true ∧ okB 1 10000 v = true
    · rw [if_pos c2] at cb
      by_cases c3 : wl σ a.toNatClampNeg < 12
      · rw [if_pos c3] at cb
        generalize hb : a.toNatClampNeg = b at cb c3 la
        have kc := nwL_kp (σ := σ) (b := b) (k := k) (v := v) (by omega)
        have mB1 : MB σ (nwL σ b k v) := MB.mo (υ := σ) ((kc.1 43 (by omega)).1 2) (fun n a b k => (kc.1 n (by omega)).2.2 k) mB
        have V1 := nwL_V hB la c3 c2.1 c2.2
        have M1 : MB (nwL σ b k v) (mnL (nwL σ b k v) b (wl σ b) k v) := mnL_M hB mB1 la c3
        have a43 : ∀ j, (nwL σ b k v).1 43 j = σ.1 43 j := fun j => (kc.1 43 (by omega)).1 j
        have z0 : ∀ j, (nwL σ b k v).1 0 j = if j = 12 then 0 else σ.1 0 j := fun j => nwL_0 j
        have km := mnL_fr (nwL σ b k v) b (wl σ b) k v
        have m43 := mnL_43 (nwL σ b k v) b (wl σ b) k v
        have mb := m_layer (τ := σ) (σ := uO (nwL σ b k v) 0 (nI (wl σ b)).toInt64) hB (MB.mo (υ := nwL σ b k v) rfl (fun n a b k => rfl) mB1) a k v
        rw [if_pos c1, if_pos c2, hb, if_pos c3, mnL_O] at mb
        rw [cb, Option.bind_some]
        dsimp only
        rw [in01, if_pos rfl, vS_d, cl0]
        generalize hn : nwL σ b k v = σ1 at kc mB1 V1 M1 a43 z0 km m43 mb ⊢
        generalize hs : mnL σ1 b (wl σ b) k v = σ2 at M1 km m43 mb ⊢
        have vg := vg_old h z0 a43 (σ2 := σ2) (fun j hj => by rw [m43, if_neg (by omega), if_neg (by omega)]) (by rw [m43, if_pos rfl])
        refine ⟨0, _, nI (wl σ b), uO σ2 0 (nI (wl σ b)).toInt64, rfl, mb, ?_, fun _ => rfl, Inv.out ?_ _ _⟩
        · show σ2.1 43 0 = 0
          rw [m43, if_neg (by omega), if_pos rfl]
        · exact asm (O1 := fun n => n = 0 ∨ oB n) (O2 := fun n => n = 43 ∨ (44 ≤ n ∧ n ≤ 49)) (J := fun j => j = 0 ∨ j = 1) h kc.1 km.1 (by rw [km.2]) (fun j hj => by rw [m43, if_neg (by omega), if_neg (by omega)]) (fun n z => by omega) (fun n z => by omega) (Or.inl ⟨V1, M1⟩) (Or.inr ⟨by omega, by omega⟩) (Or.inr ⟨fun n z => by omega, by omega, by omega⟩) (Or.inl vg.1) (Or.inr ⟨fun n z => by omega, by omega, by omega⟩) (Or.inr ⟨(kc.1 38 (by omega)).1 1, by omega, by omega, by omega⟩) (Or.inr ⟨by omega, by rw [kc.2], by omega, by omega⟩) (Or.inl vg.2)
      · have mb := m_layer hB mB a k v
        rw [if_pos c1, if_pos c2, if_neg c3] at mb
        rw [if_neg c3] at cb
        rw [cb, Option.bind_some]
        refine ⟨3, σ, 0, uI σ 43 0 3, ?_, mb, uI_eq _ _ _ _, fun z => absurd z (by decide), inv_no h 3⟩
        dsimp only
        rw [if_neg (by decide), if_neg (by decide), if_pos rfl]
    · have mb := m_layer hB mB a k v
      rw [if_pos c1, if_neg c2] at mb
      rw [if_neg c2] at cb
      rw [cb, Option.bind_some]
      refine ⟨2, σ, 0, uI σ 43 0 2, ?_, mb, uI_eq _ _ _ _, fun z => absurd z (by decide), inv_no h 2⟩
      dsimp only
      rw [if_neg (by decide), if_pos rfl]
  · have mb := m_layer hB mB a k v
    rw [if_neg c1] at mb cb
    rw [cb, Option.bind_some]
    exact ⟨1, σ, 0, uI σ 43 0 1, rfl, mb, uI_eq _ _ _ _, fun z => absurd z (by decide), inv_no h 1⟩
theorem s_age {σ : rS} (h : Inv σ) (a v : Int32) : stepA (fX11_age a v) (fX12_age a v) σ := by
  have cb := c_age a v σ
  have mA := h.2.1.2.1
  by_cases c1 : okB 0 7 a = true ∧ okB 0 99 v = true
  · rw [if_pos c1] at cb
    have kc := nwA_kp (σ := σ) (a := a) (v := v)
    have mA1 : MA σ (nwA σ a v) := MA.mo (υ := σ) (fun k => (kc.1 50 (by omega)).2.2 k) mA
    have mb := m_age a v (nwA σ a v)
    rw [if_pos c1] at mb
    have V1 := nwA_V (a := a) h.1.2.1 c1.2
    have M1 : MA (nwA σ a v) (mnA (nwA σ a v) a v) := mnA_M mA1
    have a43 : ∀ j, (nwA σ a v).1 43 j = σ.1 43 j := fun j => (kc.1 43 (by omega)).1 j
    have z0 : ∀ j, (nwA σ a v).1 0 j = if j = 12 then 0 else σ.1 0 j := fun j => nwA_0 j
    have km : Kp (fun n => n = 43 ∨ n = 50) (nwA σ a v) (mnA (nwA σ a v) a v) := by
      unfold mnA
      exact ((Kp.uI (by omega)).tr (Kp.uA (by omega))).tr (Kp.uI (by omega))
    have m43 : ∀ j, (mnA (nwA σ a v) a v).1 43 j = if j = 1 then 0 else if j = 0 then 0 else (nwA σ a v).1 43 j := fun j => by
      unfold mnA
      rw [uI_1, uA_1, uI_1]
      simp only [true_and]
    generalize hn : nwA σ a v = σ1 at kc mA1 V1 M1 a43 z0 km m43 mb cb
    generalize hs : mnA σ1 a v = σ2 at M1 km m43 mb
    have vg := vg_old h z0 a43 (σ2 := σ2) (fun j hj => by rw [m43, if_neg (by omega), if_neg (by omega)]) (by rw [m43, if_pos rfl])
    exact ⟨1, σ1, σ2, cb, mb, asm (O1 := fun n => n = 0 ∨ n = 41) (O2 := fun n => n = 43 ∨ n = 50) (J := fun j => j = 0 ∨ j = 1) h kc.1 km.1 (by rw [km.2]) (fun j hj => by rw [m43, if_neg (by omega), if_neg (by omega)]) (fun n z => by omega) (fun n z => by omega) (Or.inr ⟨fun n z => by omega, fun n z => by omega, by omega⟩) (Or.inl ⟨V1, M1⟩) (Or.inr ⟨fun n z => by omega, by omega, by omega⟩) (Or.inl vg.1) (Or.inr ⟨fun n z => by omega, by omega, by omega⟩) (Or.inr ⟨(kc.1 38 (by omega)).1 1, by omega, by omega, by omega⟩) (Or.inr ⟨by omega, by rw [kc.2], by omega, by omega⟩) (Or.inl vg.2)⟩
  · have mb := m_age a v σ
    rw [if_neg c1] at cb mb
    exact ⟨0, σ, _, cb, mb, inv_no h 0⟩
theorem s_fault {σ : rS} (h : Inv σ) (x0 y0 x1 y1 : Int32) : stepA (fX11_fault x0 y0 x1 y1) (fX12_fault x0 y0 x1 y1) σ := by
  have hF := h.1.2.2.1
  have mF := h.2.1.2.2.1
  have cb := c_fault hF x0 y0 x1 y1
  by_cases c1 : okW x0 y0 x1 y1 = true ∧ wf σ < 8
  · rw [if_pos c1] at cb
    have kc := nwF_kp (σ := σ) (x0 := x0) (y0 := y0) (x1 := x1) (y1 := y1) c1.2
    have mF1 : MF σ (nwF σ x0 y0 x1 y1) := MF.mo (υ := σ) ((kc.1 43 (by omega)).1 10) (fun k => (kc.1 51 (by omega)).2.2 k) mF
    have mb := m_fault mF1 hF.2.1 x0 y0 x1 y1
    rw [if_pos c1] at mb
    have V1 := nwF_V hF c1.1 c1.2
    have M1 : MF (nwF σ x0 y0 x1 y1) (mnF (nwF σ x0 y0 x1 y1) (wf σ) x0 y0 x1 y1) := mnF_M mF1 hF.2.1
    have a43 : ∀ j, (nwF σ x0 y0 x1 y1).1 43 j = σ.1 43 j := fun j => (kc.1 43 (by omega)).1 j
    have z0 : ∀ j, (nwF σ x0 y0 x1 y1).1 0 j = if j = 12 then 0 else σ.1 0 j := fun j => nwF_0 j
    have km : Kp (fun n => n = 43 ∨ n = 51) (nwF σ x0 y0 x1 y1) (mnF (nwF σ x0 y0 x1 y1) (wf σ) x0 y0 x1 y1) := by
      unfold mnF
      exact ((((((Kp.uI (by omega)).tr (Kp.uA (by omega))).tr (Kp.uA (by omega))).tr (Kp.uA (by omega))).tr (Kp.uA (by omega))).tr (Kp.uI (by omega))).tr (Kp.uI (by omega))
    have m43 : ∀ j, (mnF (nwF σ x0 y0 x1 y1) (wf σ) x0 y0 x1 y1).1 43 j = if j = 1 then 0 else if j = 10 then nI (wf σ + 1) else if j = 0 then 0 else (nwF σ x0 y0 x1 y1).1 43 j := fun j => by
      unfold mnF
      rw [uI_1, uI_1, uA_1, uA_1, uA_1, uA_1, uI_1]
      simp only [true_and]
    generalize hn : nwF σ x0 y0 x1 y1 = σ1 at kc mF1 V1 M1 a43 z0 km m43 mb cb
    generalize hs : mnF σ1 (wf σ) x0 y0 x1 y1 = σ2 at M1 km m43 mb
    have vg := vg_old h z0 a43 (σ2 := σ2) (fun j hj => by rw [m43, if_neg (by omega), if_neg (by omega), if_neg (by omega)]) (by rw [m43, if_pos rfl])
    exact ⟨1, σ1, σ2, cb, mb, asm (O1 := fun n => n = 0 ∨ n = 3 ∨ (144 ≤ n ∧ n < 160)) (O2 := fun n => n = 43 ∨ n = 51) (J := fun j => j = 0 ∨ j = 1 ∨ j = 10) h kc.1 km.1 (by rw [km.2]) (fun j hj => by rw [m43, if_neg (by omega), if_neg (by omega), if_neg (by omega)]) (fun n z => by omega) (fun n z => by omega) (Or.inr ⟨fun n z => by omega, fun n z => by omega, by omega⟩) (Or.inr ⟨by omega, by omega⟩) (Or.inl ⟨V1, M1⟩) (Or.inl vg.1) (Or.inr ⟨fun n z => by omega, by omega, by omega⟩) (Or.inr ⟨(kc.1 38 (by omega)).1 1, by omega, by omega, by omega⟩) (Or.inr ⟨by omega, by rw [kc.2], by omega, by omega⟩) (Or.inl vg.2)⟩
  · have mb := m_fault mF hF.2.1 x0 y0 x1 y1
    rw [if_neg c1] at cb mb
    exact ⟨0, σ, _, cb, mb, inv_no h 0⟩
theorem s_lensG {σ : rS} (h : Inv σ) (j1 j2 : Nat) (lo hi : Int) (a : Int32) (hj : (j1 = 10 ∧ j2 = 12 ∧ lo = 1 ∧ hi = 100) ∨ (j1 = 11 ∧ j2 = 13 ∧ lo = 0 ∧ hi = 10000)) : Inv (uI (uI (if okB lo hi a = true then uI σ 0 j1 a else σ) 43 0 0) 43 j2 (if okB lo hi a = true then a else (if okB lo hi a = true then uI σ 0 j1 a else σ).1 43 j2)) := by
  have mG := h.2.1.2.2.2.1
  have vG := h.1.2.2.2.1
  cases hc : okB lo hi a with
  | false =>
    rw [if_neg (by simp), if_neg (by simp)]
    refine asmQ (σ1 := σ) (O2 := fun n => n = 43) (J := fun j => j = 0) h (Fr.rf _ _) rfl ((Kp.uI (O := fun n => n = 43) rfl).tr (Kp.uI (O := fun n => n = 43) rfl)).1 rfl (fun j hj2 => ?_) (fun n z => Or.inl z) (fun j z => z)
    by_cases z : j = j2
    · rw [z, uI_eq]
    · rw [uI_nj z, uI_nj hj2]
  | true =>
    rw [if_pos rfl, if_pos rfl]
    have ok := okB_t.mp hc
    have kc : Kp (fun n => n = 0) σ (uI σ 0 j1 a) := Kp.uI rfl
    have km : Kp (fun n => n = 43) (uI σ 0 j1 a) (uI (uI (uI σ 0 j1 a) 43 0 0) 43 j2 a) := (Kp.uI (O := fun n => n = 43) rfl).tr (Kp.uI (O := fun n => n = 43) rfl)
    have e12 : (uI σ 0 j1 a).1 0 12 = σ.1 0 12 := uI_nj (by omega)
    refine asm (O1 := fun n => n = 0) (O2 := fun n => n = 43) (J := fun j => j = 0 ∨ j = j2) h kc.1 km.1 rfl (fun j hj2 => by rw [uI_nj (fun z => hj2 (Or.inr z)), uI_nj (fun z => hj2 (Or.inl z))]) (fun n z => by omega) (fun n z => by omega) (Or.inr ⟨fun n z => by omega, fun n z => by omega, by omega⟩) (Or.inr ⟨by omega, by omega⟩) (Or.inr ⟨fun n z => by omega, by omega, by omega⟩) (Or.inl ⟨⟨?_, ?_, ?_⟩, ?_, ?_, ?_⟩) (Or.inr ⟨fun n z => by omega, by omega, by omega⟩) (Or.inr ⟨rfl, by omega, by omega, by omega⟩) (Or.inr ⟨by omega, rfl, by omega, by omega⟩) (Or.inr ⟨e12, fun n z => by omega, fun n z => by omega, by omega, by omega, by omega, agT.of (kc.1 1 (by omega)) (fun n x y => kc.1 n (by omega)) h.1.1.2.1⟩)
    · rcases hj with ⟨q1, q2, q3, q4⟩ | ⟨q1, q2, q3, q4⟩
      · rw [q1, uI_eq]; rw [q3, q4] at ok; exact ok
      · rw [uI_nj (by omega)]; exact vG.1
    · rcases hj with ⟨q1, q2, q3, q4⟩ | ⟨q1, q2, q3, q4⟩
      · rw [uI_nj (by omega)]; exact vG.2.1
      · rw [q1, uI_eq]; rw [q3, q4] at ok; exact ok
    · rw [e12]; exact vG.2.2
    · rcases hj with ⟨q1, q2, q3, q4⟩ | ⟨q1, q2, q3, q4⟩
      · rw [q1, q2, uI_eq, uI_eq]
      · rw [uI_nj (by omega), uI_nj (by omega), uI_ne (by omega), uI_nj (by omega)]; exact mG.1
    · rcases hj with ⟨q1, q2, q3, q4⟩ | ⟨q1, q2, q3, q4⟩
      · rw [uI_nj (by omega), uI_nj (by omega), uI_ne (by omega), uI_nj (by omega)]; exact mG.2.1
      · rw [q1, q2, uI_eq, uI_eq]
    · rw [uI_nj (by omega), uI_nj (by omega), uI_ne (by omega), e12]; exact mG.2.2
theorem s_lens {σ : rS} (h : Inv σ) (a : Int32) : stepA (fX11_lens a) (fX12_lens a) σ := ⟨_, _, _, c_lens a σ, m_lens a _, s_lensG h 10 12 1 100 a (Or.inl ⟨rfl, rfl, rfl, rfl⟩)⟩
theorem s_within {σ : rS} (h : Inv σ) (a : Int32) : stepA (fX11_within a) (fX12_within a) σ := ⟨_, _, _, c_within a σ, m_within a _, s_lensG h 11 13 0 10000 a (Or.inr ⟨rfl, rfl, rfl, rfl⟩)⟩
theorem s_water {σ : rS} (h : Inv σ) (a w l : Int32) : stepA (fX11_water a w l) (fX12_water a w l) σ := by
  have hB := h.1.1
  have mB := h.2.1.1
  have hW := h.1.2.2.2.2.1
  have mW := h.2.1.2.2.2.2.1
  have h16 := hB.2.1
  have cb := c_water hB hW a w l
  by_cases c1 : okWa (wn σ) a w l = true ∧ wpl σ a w < 60
  · rw [if_pos c1] at cb
    have kc := nwW_kp (σ := σ) (b := a) (w := w) (l := l)
    have mB1 : MB σ (nwW σ a w l) := MB.mo (υ := σ) ((kc.1 43 (by omega)).1 2) (fun n a b k => (kc.1 n (by omega)).2.2 k) mB
    have mW1 : MW σ (nwW σ a w l) := MW.mo (υ := σ) ((kc.1 43 (by omega)).1 14) (fun k => (kc.1 52 (by omega)).2.2 k) mW
    have mb := m_water hB mB1 hW mW1 a w l
    rw [if_pos c1] at mb
    have V1 := nwW_V hW h16 c1.1 c1.2
    have M1 : MW (nwW σ a w l) (mnW (nwW σ a w l) (ww σ) (wpl σ a w) a w l) := mnW_M hW mW1 c1.2
    have km : Kp (fun n => n = 43 ∨ n = 52) (nwW σ a w l) (mnW (nwW σ a w l) (ww σ) (wpl σ a w) a w l) := by
      unfold mnW
      exact ((((Kp.uI (by omega)).tr (Kp.uA (by omega))).tr (Kp.uA (by omega))).tr (Kp.uA (by omega))).tr (Kp.uI (by omega))
    have m43 : ∀ j, j ≠ 14 → j ≠ 0 → (mnW (nwW σ a w l) (ww σ) (wpl σ a w) a w l).1 43 j = (nwW σ a w l).1 43 j := fun j h1 h2 => by
      unfold mnW
      rw [uI_nj h1, uA_1, uA_1, uA_1, uI_nj h2]
    generalize hn : nwW σ a w l = σ1 at kc mB1 mW1 V1 M1 km m43 mb cb
    generalize hs : mnW σ1 (ww σ) (wpl σ a w) a w l = σ2 at M1 km m43 mb
    exact ⟨1, σ1, σ2, cb, mb, asm (O1 := fun n => 6 ≤ n ∧ n ≤ 9) (O2 := fun n => n = 43 ∨ n = 52) (J := fun j => j = 0 ∨ j = 14) h kc.1 km.1 (by rw [km.2]) (fun j hj => m43 j (by omega) (by omega)) (fun n z => by omega) (fun n z => by omega) (Or.inr ⟨fun n z => by omega, fun n z => by omega, by omega⟩) (Or.inr ⟨by omega, by omega⟩) (Or.inr ⟨fun n z => by omega, by omega, by omega⟩) (Or.inr ⟨by omega, by omega, by omega, by omega⟩) (Or.inl ⟨V1, M1⟩) (Or.inr ⟨(kc.1 38 (by omega)).1 1, by omega, by omega, by omega⟩) (Or.inr ⟨by omega, by rw [kc.2], by omega, by omega⟩) (Or.inr ⟨(kc.1 0 (by omega)).1 12, fun n z => by omega, fun n z => by omega, by omega, by omega, by omega, agT.of (kc.1 1 (by omega)) (fun n x y => kc.1 n (by omega)) h16⟩)⟩
  · have mb := m_water hB mB hW mW a w l
    rw [if_neg c1] at cb mb
    exact ⟨0, σ, _, cb, mb, inv_no h 0⟩
theorem s_doubt {σ : rS} (h : Inv σ) (x y : Int32) : stepA (fX11_doubt x y) (fX12_doubt x y) σ := ⟨_, _, _, c_doubt h.1.1 x y, m_doubt h.1.1.2.1 h.2.1.1 x y, inv_no h 0⟩
theorem s_unit {σ : rS} (h : Inv σ) (c : Int32) : stepA (fX11_unit c) (fX12_unit c) σ := by
  have hT := h.1.2.2.2.2.2.1
  have mT := h.2.1.2.2.2.2.2.1
  have cb := c_unit hT c
  by_cases c1 : okC c = true ∧ wz σ < 600
  · rw [if_pos c1] at cb
    have kc := nwT_kp (σ := σ) (c := c)
    have mT1 : MT σ (nwT σ c) := MT.mo (υ := σ) ((kc.1 43 (by omega)).1 31) (fun k => (kc.1 63 (by omega)).2.2 k) mT
    have mb := m_unit mT1 hT.2.1 c
    rw [if_pos c1] at mb
    have V1 := nwT_V hT c1.1 c1.2
    have M1 : MT (nwT σ c) (mnT (nwT σ c) (wz σ) c) := mnT_M mT1 c1.2
    have km : Kp (fun n => n = 43 ∨ n = 63) (nwT σ c) (mnT (nwT σ c) (wz σ) c) := by
      unfold mnT
      exact ((Kp.uI (by omega)).tr (Kp.uA (by omega))).tr (Kp.uI (by omega))
    have m43 : ∀ j, j ≠ 31 → j ≠ 0 → (mnT (nwT σ c) (wz σ) c).1 43 j = (nwT σ c).1 43 j := fun j h1 h2 => by
      unfold mnT
      rw [uI_nj h1, uA_1, uI_nj h2]
    generalize hn : nwT σ c = σ1 at kc mT1 V1 M1 km m43 mb cb
    generalize hs : mnT σ1 (wz σ) c = σ2 at M1 km m43 mb
    exact ⟨1, σ1, σ2, cb, mb, asm (O1 := fun n => n = 38 ∨ n = 39) (O2 := fun n => n = 43 ∨ n = 63) (J := fun j => j = 0 ∨ j = 31) h kc.1 km.1 (by rw [km.2]) (fun j hj => m43 j (by omega) (by omega)) (fun n z => by omega) (fun n z => by omega) (Or.inr ⟨fun n z => by omega, fun n z => by omega, by omega⟩) (Or.inr ⟨by omega, by omega⟩) (Or.inr ⟨fun n z => by omega, by omega, by omega⟩) (Or.inr ⟨by omega, by omega, by omega, by omega⟩) (Or.inr ⟨fun n z => by omega, by omega, by omega⟩) (Or.inl ⟨V1, M1⟩) (Or.inr ⟨by omega, by rw [kc.2], by omega, by omega⟩) (Or.inr ⟨(kc.1 0 (by omega)).1 12, fun n z => by omega, fun n z => by omega, by omega, by omega, by omega, agT.of (kc.1 1 (by omega)) (fun n x y => kc.1 n (by omega)) h.1.1.2.1⟩)⟩
  · have mb := m_unit mT hT.2.1 c
    rw [if_neg c1] at cb mb
    exact ⟨0, σ, _, cb, mb, inv_no h 0⟩
