/-! read, BOTH HALVES. -/
theorem VB.ag {τ ρ : rS} (hB : VB τ) (h1 : ρ.1 1 1 = nI (wn τ)) (h2 : ρ.1 1 2 = 0) (e : ∀ n, 80 ≤ n → n < 80 + 4 * wn τ → Eqo ρ τ n) : VB ρ ∧ agT ρ τ := by
  obtain ⟨v1, v2, v3, v4, v5⟩ := hB
  have en : wn ρ = wn τ := by unfold wn; rw [h1, v1]
  have g : ∀ k, k < wn τ → wx ρ k = wx τ k ∧ wy ρ k = wy τ k ∧ wt ρ k = wt τ k ∧ wl ρ k = wl τ k ∧ (∀ i, wk ρ k i = wk τ k i ∧ wh ρ k i = wh τ k i) ∧ ρ.1 (80 + 4 * k) 4 = τ.1 (80 + 4 * k) 4 := fun k hk => by
    have e0 := e (80 + 4 * k) (by omega) (by omega)
    have e1 := e (80 + 4 * k + 1) (by omega) (by omega)
    have e2 := e (80 + 4 * k + 2) (by omega) (by omega)
    have e3 := e (80 + 4 * k + 3) (by omega) (by omega)
    exact ⟨wx_kp e1, wy_kp e1, wt_kp e0, wl_kp e0, fun i => ⟨wk_kp e2, wh_kp e3⟩, e0.1 4⟩
  refine ⟨⟨by rw [en]; exact h1, by rw [en]; exact v2, h2, fun k hk => ?_, fun j k hjk hk => ?_⟩, en, fun k hk => ?_⟩
  · rw [en] at hk
    obtain ⟨g1, g2, g3, g4, g5, g6⟩ := g k hk
    rw [g1, g2, g3, g4, g6]
    obtain ⟨a1, a2, a3, a4, a5, a6⟩ := v4 k hk
    refine ⟨a1, a2, a3, a4, a5, fun i hi => ?_⟩
    rw [(g5 i).1, (g5 i).2]
    exact a6 i hi
  · rw [en] at hk
    rw [(g j (by omega)).1, (g j (by omega)).2.1, (g k hk).1, (g k hk).2.1]
    exact v5 j k hjk hk
  · obtain ⟨g1, g2, g3, g4, g5, g6⟩ := g k hk
    exact ⟨g1, g2, g3, g4, fun i _ => g5 i⟩
theorem MB.ag {τ ρ σ : rS} (a : agT ρ τ) (m : MB τ σ) : MB ρ σ := by
  obtain ⟨a1, a2⟩ := a
  refine ⟨by rw [a1]; exact m.1, fun k hk => ?_⟩
  rw [a1] at hk
  obtain ⟨g1, g2, g3, g4, g5⟩ := a2 k hk
  obtain ⟨m1, m2, m3, m4, m5⟩ := m.2 k hk
  rw [g1, g2, g3, g4]
  refine ⟨m1, m2, m3, m4, fun i hi => ?_⟩
  rw [(g5 i hi).1, (g5 i hi).2]
  exact m5 i hi
theorem wz_0 {τ : rS} (h : τ.1 38 1 = 0) : VT τ ∧ wz τ = 0 := by
  have e : wz τ = 0 := by unfold wz; rw [h]; rfl
  exact ⟨⟨by rw [h, e]; rfl, by omega, fun k hk => by omega⟩, e⟩
theorem rd_no {σ σ' σ3 : rS} (h : Inv σ) (kp : Kp (oSt (wn σ)) σ σ') (e11 : σ'.1 1 1 = nI (wn σ)) (rm : Rm (uI (uI σ' 1 2 0) 38 1 0) σ3) : Inv (uI σ3 43 31 0) := by
  have hB := h.1.1
  have h16 := hB.2.1
  have k1 : Kp (oSt (wn σ)) σ (uI (uI σ' 1 2 0) 38 1 0) := (kp.tr (Kp.uI (by omega))).tr (Kp.uI (by omega))
  have z11 : (uI (uI σ' 1 2 0) 38 1 0).1 1 1 = nI (wn σ) := by rw [uI_ne (by omega), uI_nj (by omega)]; exact e11
  have z12 : (uI (uI σ' 1 2 0) 38 1 0).1 1 2 = 0 := by rw [uI_ne (by omega), uI_eq]
  have z38 : (uI (uI σ' 1 2 0) 38 1 0).1 38 1 = 0 := uI_eq _ _ _ _
  generalize uI (uI σ' 1 2 0) 38 1 0 = ρ at rm k1 z11 z12 z38
  obtain ⟨VB1, ag1⟩ := hB.ag z11 z12 (fun n a b => k1.1 n (by omega))
  obtain ⟨VT1, z0⟩ := wz_0 z38
  have k2 : Kp oRd ρ (uI σ3 43 31 0) := rm.1.tr (Kp.uI (by omega))
  have j2 : ∀ j, ¬ (j = 0 ∨ j = 31 ∨ j = 33 ∨ j = 39) → (uI σ3 43 31 0).1 43 j = ρ.1 43 j := fun j hj => by rw [uI_nj (by omega)]; exact rm.2 j (by omega) (by omega) (by omega)
  have j31 : (uI σ3 43 31 0).1 43 31 = 0 := uI_eq _ _ _ _
  generalize uI σ3 43 31 0 = σ2 at k2 j2 j31
  have MB2 : MB σ σ2 := MB.mo (υ := σ) (by rw [j2 2 (by omega)]; exact (k1.1 43 (by omega)).1 2) (fun n a b q => ((k2.1 n (by omega)).2.2 q).trans ((k1.1 n (by omega)).2.2 q)) h.2.1.1
  exact asm (O1 := oSt (wn σ)) (O2 := oRd) (J := fun j => j = 0 ∨ j = 31 ∨ j = 33 ∨ j = 39) h k1.1 k2.1 (by rw [k2.2]) j2 (fun n z => by omega) (fun n z => by omega)
    (Or.inl ⟨VB1, MB2.ag ag1⟩)
    (Or.inr ⟨by omega, by omega⟩)
    (Or.inr ⟨fun n z => by omega, by omega, by omega⟩)
    (Or.inr ⟨by omega, by omega, by omega, by omega⟩)
    (Or.inr ⟨fun n z => by omega, by omega, by omega⟩)
    (Or.inl ⟨VT1, by rw [z0, j31]; rfl, fun k hk => by omega⟩)
    (Or.inr ⟨by omega, by rw [k1.2], by omega, by omega⟩)
    (Or.inr ⟨(k1.1 0 (by omega)).1 12, fun n z => by omega, fun n z => by omega, by omega, by omega, by omega, ag1⟩)
theorem rd_VB {σ ρ : rS} {B : List tB} (hB : VB σ) (d : Dst σ B) (h16 : wn σ + B.length ≤ 16) (z11 : ρ.1 1 1 = nI (wn σ + B.length)) (z12 : ρ.1 1 2 = 0) (old : ∀ n, 80 ≤ n → n < 80 + 4 * wn σ → Eqo ρ σ n) (new : ∀ (j : Nat) (b : tB), B[j]? = some b → BorAt ρ (wn σ + j) b ∧ okBor b) : VB ρ ∧ wn ρ = wn σ + B.length := by
  have en : wn ρ = wn σ + B.length := by unfold wn; rw [z11, kc (by omega)]; rfl
  obtain ⟨v1, v2, v3, v4, v5⟩ := hB
  have o : ∀ k, k < wn σ → wx ρ k = wx σ k ∧ wy ρ k = wy σ k := fun k hk => by
    have e1 := old (80 + 4 * k + 1) (by omega) (by omega)
    exact ⟨wx_kp e1, wy_kp e1⟩
  have nb : ∀ k, ¬ k < wn σ → k < wn σ + B.length → ∃ b, B[k - wn σ]? = some b ∧ BorAt ρ k b ∧ okBor b := fun k a b => by
    refine ⟨B[k - wn σ]'(by omega), List.getElem?_eq_getElem (by omega), ?_⟩
    have q := new (k - wn σ) _ (List.getElem?_eq_getElem (by omega))
    have e : wn σ + (k - wn σ) = k := by omega
    rw [e] at q
    exact q
  refine ⟨⟨by rw [en]; exact z11, by rw [en]; exact h16, z12, fun k hk => ?_, fun j k hjk hk => ?_⟩, en⟩
  · rw [en] at hk
    by_cases z : k < wn σ
    · have e0 := old (80 + 4 * k) (by omega) (by omega)
      have e2 := old (80 + 4 * k + 2) (by omega) (by omega)
      have e3 := old (80 + 4 * k + 3) (by omega) (by omega)
      obtain ⟨a1, a2, a3, a4, a5, a6⟩ := v4 k z
      rw [(o k z).1, (o k z).2, wt_kp e0, wl_kp e0, e0.1 4]
      refine ⟨a1, a2, a3, a4, a5, fun i hi => ?_⟩
      rw [wk_kp e2, wh_kp e3]
      exact a6 i hi
    · obtain ⟨b, hb, ⟨q1, q2, q3, q4, q5⟩, r1, r2, r3, r4, r5⟩ := nb k z hk
      have el : wl ρ k = b.2.2.2.length := by unfold wl; rw [q4, kc (by omega)]
      rw [q1, q2, q3, el]
      refine ⟨r1, r2, r3, q4, r4, fun i hi => ?_⟩
      have gi : b.2.2.2[i]? = some (b.2.2.2[i]'hi) := List.getElem?_eq_getElem hi
      rw [(q5 i _ gi).1, (q5 i _ gi).2]
      exact r5 i _ gi
  · rw [en] at hk
    by_cases z : k < wn σ
    · rw [(o j (by omega)).1, (o j (by omega)).2, (o k z).1, (o k z).2]
      exact v5 j k hjk z
    · obtain ⟨b, hb, q, -⟩ := nb k z hk
      rw [q.1, q.2.1]
      by_cases y : j < wn σ
      · rw [(o j y).1, (o j y).2]
        exact d.1 j _ b y hb
      · obtain ⟨b', hb', q', -⟩ := nb j y (by omega)
        rw [q'.1, q'.2.1]
        exact d.2 (j - wn σ) (k - wn σ) b' b (by omega) hb' hb
theorem rd_MB {σ ρ υ σ2 : rS} {B : List tB} (hB : VB σ) (h16 : wn σ + B.length ≤ 16) (en : wn ρ = wn σ + B.length) (old : ∀ n, 80 ≤ n → n < 80 + 4 * wn σ → Eqo ρ σ n) (new : ∀ (j : Nat) (b : tB), B[j]? = some b → BorAt ρ (wn σ + j) b ∧ okBor b) (m : MB σ υ) (cp : Cp (wn σ) B υ σ2 B.length) : MB ρ σ2 := by
  obtain ⟨c1, c2, c3, c4, c5, c6, c7⟩ := cp
  refine ⟨by rw [en]; exact c3, fun k hk => ?_⟩
  rw [en] at hk
  by_cases z : k < wn σ
  · have e0 := old (80 + 4 * k) (by omega) (by omega)
    have e1 := old (80 + 4 * k + 1) (by omega) (by omega)
    have e2 := old (80 + 4 * k + 2) (by omega) (by omega)
    have e3 := old (80 + 4 * k + 3) (by omega) (by omega)
    obtain ⟨m1, m2, m3, m4, m5⟩ := m.2 k z
    obtain ⟨d1, d2, d3, d4⟩ := c5 k z
    have l12 := (hB.2.2.2.1 k z).2.2.2.2.1
    rw [wx_kp e1, wy_kp e1, wt_kp e0, wl_kp e0, d1, d2, d3, d4]
    refine ⟨m1, m2, m3, m4, fun i hi => ?_⟩
    obtain ⟨f1, f2⟩ := c6 (12 * k + i) (by omega)
    rw [wk_kp e2, wh_kp e3, f1, f2]
    exact m5 i hi
  · have gb : B[k - wn σ]? = some (B[k - wn σ]'(by omega)) := List.getElem?_eq_getElem (by omega)
    have q := new (k - wn σ) _ gb
    have x := c7 (k - wn σ) _ (by omega) gb
    have e : wn σ + (k - wn σ) = k := by omega
    rw [e] at q x
    generalize B[k - wn σ]'(by omega) = b at q x gb
    obtain ⟨⟨q1, q2, q3, q4, q5⟩, -, -, -, r4, -⟩ := q
    obtain ⟨x1, x2, x3, x4, x5, x6⟩ := x
    have el : wl ρ k = b.2.2.2.length := by unfold wl; rw [q4, kc (by omega)]
    rw [q1, q2, q3, el]
    refine ⟨x1, x2, x3, x4, fun i hi => ?_⟩
    have gi : b.2.2.2[i]? = some (b.2.2.2[i]'hi) := List.getElem?_eq_getElem hi
    rw [(q5 i _ gi).1, (q5 i _ gi).2]
    exact x6 i _ gi
theorem rd_yes {σ σ' σ3 σ2 : rS} {B : List tB} (h : Inv σ) (d : Dst σ B) (z : B.length ≠ 0) (sg : Sg σ σ' B) (rm : Rm (uI (uI (uI (uI σ' 0 12 0) 1 1 (nI (wn σ + B.length))) 1 2 0) 38 1 0) σ3) (cp : Cp (wn σ) B (uI σ3 43 31 0) σ2 B.length) : Inv σ2 := by
  have hB := h.1.1
  have h16 := sg.2.2.2.1
  have k1 : Kp (fun n => n = 0 ∨ oSt (wn σ) n) σ (uI (uI (uI (uI σ' 0 12 0) 1 1 (nI (wn σ + B.length))) 1 2 0) 38 1 0) := ((((sg.1.mono (fun n z => Or.inr z)).tr (Kp.uI (by omega))).tr (Kp.uI (by omega))).tr (Kp.uI (by omega))).tr (Kp.uI (by omega))
  have z11 : (uI (uI (uI (uI σ' 0 12 0) 1 1 (nI (wn σ + B.length))) 1 2 0) 38 1 0).1 1 1 = nI (wn σ + B.length) := by rw [uI_ne (by omega), uI_nj (by omega), uI_eq]
  have z12 : (uI (uI (uI (uI σ' 0 12 0) 1 1 (nI (wn σ + B.length))) 1 2 0) 38 1 0).1 1 2 = 0 := by rw [uI_ne (by omega), uI_eq]
  have z38 : (uI (uI (uI (uI σ' 0 12 0) 1 1 (nI (wn σ + B.length))) 1 2 0) 38 1 0).1 38 1 = 0 := uI_eq _ _ _ _
  have z0 : ∀ j, (uI (uI (uI (uI σ' 0 12 0) 1 1 (nI (wn σ + B.length))) 1 2 0) 38 1 0).1 0 j = if j = 12 then 0 else σ.1 0 j := fun j => by
    rw [uI_ne (by omega), uI_ne (by omega), uI_ne (by omega), uI_1]
    simp only [true_and]
    rw [(sg.1.1 0 (by omega)).1 j]
  have new : ∀ (j : Nat) (b : tB), B[j]? = some b → BorAt (uI (uI (uI (uI σ' 0 12 0) 1 1 (nI (wn σ + B.length))) 1 2 0) 38 1 0) (wn σ + j) b ∧ okBor b := fun j b hb => by
    have kk : Kp (fun n => n = 0 ∨ n = 1 ∨ n = 38) σ' (uI (uI (uI (uI σ' 0 12 0) 1 1 (nI (wn σ + B.length))) 1 2 0) 38 1 0) := (((Kp.uI (by omega)).tr (Kp.uI (by omega))).tr (Kp.uI (by omega))).tr (Kp.uI (by omega))
    obtain ⟨b1, b2⟩ := sg.2.2.2.2 j b hb
    exact ⟨b1.kp (fun n a c => kk.1 n (by omega)), b2⟩
  generalize uI (uI (uI (uI σ' 0 12 0) 1 1 (nI (wn σ + B.length))) 1 2 0) 38 1 0 = ρ at rm k1 z11 z12 z38 z0 new
  have old : ∀ n, 80 ≤ n → n < 80 + 4 * wn σ → Eqo ρ σ n := fun n a b => k1.1 n (by omega)
  obtain ⟨VB1, en⟩ := rd_VB hB d h16 z11 z12 old new
  obtain ⟨VT1, zz⟩ := wz_0 z38
  have k2 : Kp oRd ρ (uI σ3 43 31 0) := rm.1.tr (Kp.uI (by omega))
  have j2 : ∀ j, ¬ (j = 0 ∨ j = 31 ∨ j = 33 ∨ j = 39) → (uI σ3 43 31 0).1 43 j = ρ.1 43 j := fun j hj => by rw [uI_nj (by omega)]; exact rm.2 j (by omega) (by omega) (by omega)
  have j31 : (uI σ3 43 31 0).1 43 31 = 0 := uI_eq _ _ _ _
  generalize uI σ3 43 31 0 = υ at k2 j2 j31 cp
  have MBv : MB σ υ := MB.mo (υ := σ) (by rw [j2 2 (by omega)]; exact (k1.1 43 (by omega)).1 2) (fun n a b q => ((k2.1 n (by omega)).2.2 q).trans ((k1.1 n (by omega)).2.2 q)) h.2.1.1
  have MB2 := rd_MB hB h16 en old new MBv cp
  obtain ⟨c1, c2, c3, c4, -⟩ := cp
  rw [if_neg z] at c4
  have k3 : Kp (fun n => (43 ≤ n ∧ n ≤ 49) ∨ oRd n) ρ σ2 := (k2.mono (fun n z => Or.inr z)).tr (c1.mono (fun n z => Or.inl z))
  have j3 : ∀ j, ¬ (j = 0 ∨ j = 1 ∨ j = 2 ∨ j = 31 ∨ j = 33 ∨ j = 39) → σ2.1 43 j = ρ.1 43 j := fun j hj => (c2 j (by omega) (by omega)).trans (j2 j (by omega))
  have m31 : σ2.1 43 31 = 0 := (c2 31 (by omega) (by omega)).trans j31
  have vg := vg_old (σ1 := ρ) (σ2 := σ2) h z0 (fun j => (k1.1 43 (by omega)).1 j) (fun j hj => j3 j (by omega)) c4
  exact asm (O1 := fun n => n = 0 ∨ oSt (wn σ) n) (O2 := fun n => (43 ≤ n ∧ n ≤ 49) ∨ oRd n) (J := fun j => j = 0 ∨ j = 1 ∨ j = 2 ∨ j = 31 ∨ j = 33 ∨ j = 39) h k1.1 k3.1 (by rw [k3.2]) j3 (fun n z => by omega) (fun n z => by omega)
    (Or.inl ⟨VB1, MB2⟩)
    (Or.inr ⟨by omega, by omega⟩)
    (Or.inr ⟨fun n z => by omega, by omega, by omega⟩)
    (Or.inl vg.1)
    (Or.inr ⟨fun n z => by omega, by omega, by omega⟩)
    (Or.inl ⟨VT1, by rw [zz, m31]; rfl, fun k hk => by omega⟩)
    (Or.inr ⟨by omega, by rw [k1.2], by omega, by omega⟩)
    (Or.inl vg.2)
theorem s_read {σ : rS} (h : Inv σ) : stepA fX11_read fX12_read σ := by
  have hB := h.1.1
  have h16 := hB.2.1
  have mB := h.2.1.1
  have hT := h.1.2.2.2.2.2.1
  have mT := h.2.1.2.2.2.2.2.1
  have hL := hT.2.1
  have tc : Tc (σ.2.2.1 39) (wz σ) σ := ⟨hT.1, fun k hk => rfl⟩
  have tq : Tq (σ.2.2.1 39) (wz σ) σ := ⟨mT.1, mT.2⟩
  generalize σ.2.2.1 39 = u at tc tq
  generalize wz σ = L at tc tq hL
  obtain ⟨-, c0, S0, T0, -, -, W0, -⟩ := m_words hL tq
  obtain ⟨v, σ1, e1, fr⟩ : ∃ v σ1, fX11_read σ = some (v, σ1) ∧ ∀ n, isM n → Eqo σ1 σ n := by
    obtain ⟨g1, g2⟩ := c_read W0 hB tc
    cases y : allS u c0 S0 T0 σ 17 0 [] with
    | error b =>
      obtain ⟨σ', x1, x2, x3, x4⟩ := g1 b y
      exact ⟨_, _, x1, fun n hn => ((x2.tr (Kp.uI (by omega))).tr (Kp.uI (by omega))).1 n (by omega)⟩
    | ok B =>
      obtain ⟨σ', x1, x2⟩ := g2 B y
      refine ⟨_, _, x1, fun n hn => ?_⟩
      by_cases z : B.length = 0
      · rw [if_pos z]
        exact ((x2.1.tr (Kp.uI (by omega))).tr (Kp.uI (by omega))).1 n (by omega)
      · rw [if_neg z]
        exact (((((x2.1.mono (O2 := fun n => n = 0 ∨ oSt (wn σ) n) (fun n z => Or.inr z)).tr (Kp.uI (by omega))).tr (Kp.uI (by omega))).tr (Kp.uI (by omega))).tr (Kp.uI (by omega))).1 n (by omega)
  have mB1 : MB σ σ1 := MB.mo (υ := σ) ((fr 43 (by omega)).1 2) (fun n a b q => (fr n (by omega)).2.2 q) mB
  have tq1 : Tq u L σ1 := ⟨((fr 43 (by omega)).1 31).trans tq.1, fun k hk => ((fr 63 (by omega)).2.2 k).trans (tq.2 k hk)⟩
  have tq2 : Tq u L (uI σ1 43 0 0) := ⟨by rw [uI_nj (by omega)]; exact tq1.1, tq1.2⟩
  obtain ⟨υ, c, S, T, f1, f2, W, f3⟩ := m_words hL tq2
  obtain ⟨g1, g2⟩ := c_read W hB tc
  obtain ⟨r1, r2⟩ := m_read W h16 mB1 tq1 f1 f2 f3
  cases y : allS u c S T σ 17 0 [] with
  | error b =>
    obtain ⟨σ', x1, x2, x3, x4⟩ := g1 b y
    obtain ⟨σ3, q1, q2⟩ := r1 b x4 y
    rw [x1] at e1
    obtain ⟨rfl, rfl⟩ := Prod.mk.inj (Option.some.inj e1)
    exact ⟨_, _, _, x1, q1, rd_no h x2 x3 q2⟩
  | ok B =>
    obtain ⟨σ', x1, x2⟩ := g2 B y
    obtain ⟨σ3, q1, q2, q3⟩ := r2 B y
    have l16 := x2.2.2.2.1
    have M5 : Msg (uI σ3 43 31 0) B := ⟨by rw [uI_nj (by omega)]; exact q3.1, fun j b hb => (q3.2 j b hb).kp (fun n a b => (Kp.uI (O := fun n => n = 43) rfl).1 n (by omega))⟩
    have n2 : (uI σ3 43 31 0).1 43 2 = nI (wn σ + 0) := by rw [uI_nj (by omega), q2.2 2 (by omega) (by omega) (by omega)]; exact mB1.1
    have C0 : Cp (wn σ) B (uI σ3 43 31 0) (uI σ3 43 31 0) 0 := ⟨Kp.rf _ _, fun _ _ _ => rfl, n2, by rw [if_pos rfl], fun k hk => ⟨rfl, rfl, rfl, rfl⟩, fun q hq => ⟨rfl, rfl⟩, fun i b hi => absurd hi (by omega)⟩
    by_cases z : B.length = 0
    · rw [if_pos z] at x1
      rw [x1] at e1
      obtain ⟨rfl, rfl⟩ := Prod.mk.inj (Option.some.inj e1)
      refine ⟨_, _, uI σ3 43 31 0, x1, ?_, rd_no h x2.1 x2.2.1 q2⟩
      have e39 := M5.1
      rw [q1, z]
      rw [z] at e39
      show lX12_read_30 (999 + 1) 0 _ = _
      rw [lX12_read_30, e39, if_pos (by decide)]
    · rw [if_neg z] at x1
      rw [x1] at e1
      obtain ⟨rfl, rfl⟩ := Prod.mk.inj (Option.some.inj e1)
      obtain ⟨σ2, w1, w2⟩ := m_copy l16 M5 B.length 0 1000 _ (by omega) (by omega) C0
      refine ⟨_, _, σ2, x1, q1.trans w1, rd_yes h (allS_dst y ⟨fun j k b _ hb => (by cases hb), fun j k a b _ ha => (by cases ha)⟩) z x2 q2 w2⟩
