/-! THE NET AS BOTH HALVES HAVE IT; RUN. -/
/-- two stores tell the same borings -/
def agT (σ τ : rS) : Prop := wn σ = wn τ ∧ ∀ k, k < wn τ → wx σ k = wx τ k ∧ wy σ k = wy τ k ∧ wt σ k = wt τ k ∧ wl σ k = wl τ k ∧ ∀ i, i < wl τ k → wk σ k i = wk τ k i ∧ wh σ k i = wh τ k i
theorem agT.rf (σ : rS) : agT σ σ := ⟨rfl, fun k _ => ⟨rfl, rfl, rfl, rfl, fun i _ => ⟨rfl, rfl⟩⟩⟩
theorem agT.tr {σ τ υ : rS} (h1 : agT σ τ) (h2 : agT τ υ) : agT σ υ := by
  refine ⟨h1.1.trans h2.1, fun k hk => ?_⟩
  obtain ⟨a1, a2, a3, a4, a5⟩ := h2.2 k hk
  obtain ⟨b1, b2, b3, b4, b5⟩ := h1.2 k (by rw [h2.1]; exact hk)
  refine ⟨b1.trans a1, b2.trans a2, b3.trans a3, b4.trans a4, fun i hi => ?_⟩
  have x := b5 i (by rw [a4]; exact hi)
  have y := a5 i hi
  exact ⟨x.1.trans y.1, x.2.trans y.2⟩
theorem agT.of {σ τ : rS} (h1 : Eqo σ τ 1) (h2 : ∀ n, 80 ≤ n → n < 144 → Eqo σ τ n) (h16 : wn τ ≤ 16) : agT σ τ := ⟨wn_kp h1, fun k hk => ⟨wx_kp (h2 _ (by omega) (by omega)), wy_kp (h2 _ (by omega) (by omega)), wt_kp (h2 _ (by omega) (by omega)), wl_kp (h2 _ (by omega) (by omega)), fun i _ => ⟨wk_kp (h2 _ (by omega) (by omega)), wh_kp (h2 _ (by omega) (by omega))⟩⟩⟩
theorem agT.P {σ τ : rS} (h : agT σ τ) {k : Nat} (hk : k < wn τ) : wP σ k = wP τ k := by
  obtain ⟨a, b, _⟩ := h.2 k hk
  have e1 : wP σ k = zp (wx σ k) (wy σ k) := rfl
  have e2 : wP τ k = zp (wx τ k) (wy τ k) := rfl
  rw [e1, e2, a, b]
def CN (σ τ : rS) (bk : Nat × Nat → Bool) (E : List (Nat × Nat)) (T : List (Nat × Nat × Nat)) (f : Nat → Option Nat) (L : List Nat) : Prop := isE σ bk E ∧ isTr σ (wP τ) T ∧ matC σ τ bk E E.length ∧ levS σ τ (wn τ) ∧ numF σ 26 f ∧ σ.1 25 5 = nI L.length ∧ bedC σ τ f L
def MN (σ τ : rS) (bk : Nat × Nat → Bool) (E : List (Nat × Nat)) (T : List (Nat × Nat × Nat)) (f : Nat → Option Nat) (L : List Nat) : Prop := isN σ bk E ∧ isTm σ T ∧ matM σ τ bk E E.length ∧ numF σ 60 f ∧ σ.1 43 25 = nI L.length ∧ ∀ c s, L[c]? = some s → σ.2.2.1 61 c = nI s
def PU (τ : rS) (bk : Nat × Nat → Bool) (E : List (Nat × Nat)) (T : List (Nat × Nat × Nat)) (f : Nat → Option Nat) (L : List Nat) : Prop := netE (wn τ) (wP τ) E ∧ T = TL (wn τ) (wP τ) (nbE bk E) ∧ good (adjP τ (nbE bk E)) (okS τ) f L
def FR (σ : rS) : Prop := ∃ τ bk E T f L, VB τ ∧ agT σ τ ∧ PU τ bk E T f L ∧ CN σ τ bk E T f L ∧ MN σ τ bk E T f L
abbrev isF (n : Nat) : Prop := (10 ≤ n ∧ n ≤ 17) ∨ n = 19 ∨ n = 22 ∨ n = 23 ∨ (25 ≤ n ∧ n ≤ 32)
section FRk
variable {σ υ τ : rS} {bk : Nat × Nat → Bool} {E : List (Nat × Nat)} {T : List (Nat × Nat × Nat)} {f : Nat → Option Nat} {L : List Nat}
theorem isE.kp (hc : ∀ n, (10 ≤ n ∧ n ≤ 17) → Eqo υ σ n) (h : isE σ bk E) : isE υ bk E := by
  obtain ⟨⟨a1, a2⟩, a3, a4, a5⟩ := h
  refine ⟨⟨by rw [(hc 10 (by omega)).1]; exact a1, fun k e hk => by rw [(hc 11 (by omega)).2.2, (hc 12 (by omega)).2.2]; exact a2 k e hk⟩, by rw [(hc 10 (by omega)).1]; exact a3, fun k e hk => by rw [(hc 13 (by omega)).2.2]; exact a4 k e hk, fun a b ha hb => by rw [(hc 16 (by omega)).2.2]; exact a5 a b ha hb⟩
theorem isTr.kp {p : Nat → zP} (hc : ∀ n, (10 ≤ n ∧ n ≤ 17) → Eqo υ σ n) (h : isTr σ p T) : isTr υ p T := by
  refine ⟨by rw [(hc 10 (by omega)).1]; exact h.1, fun k t hk => ?_⟩
  rw [(hc 17 (by omega)).2.2, (hc 17 (by omega)).2.2, (hc 17 (by omega)).2.2, (hc 14 (by omega)).2.2]
  exact h.2 k t hk
theorem matC.kp (hc : ∀ n, (n = 19 ∨ n = 22 ∨ n = 23) → Eqo υ σ n) {K : Nat} (h : matC σ τ bk E K) : matC υ τ bk E K := by
  intro k e h1 h2 h3
  rw [(hc 19 (by omega)).2.2]
  simp only [(hc 22 (by omega)).2.2, (hc 23 (by omega)).2.2]
  exact h k e h1 h2 h3
theorem CN.kp (hc : ∀ n, isF n → Eqo υ σ n) (h : CN σ τ bk E T f L) : CN υ τ bk E T f L := by
  obtain ⟨a1, a2, a3, a4, a5, a6, a7⟩ := h
  refine ⟨a1.kp (fun n hn => hc n (by omega)), a2.kp (fun n hn => hc n (by omega)), a3.kp (fun n hn => hc n (by omega)), fun b l h1 h2 => ?_, fun x hx => ?_, ?_, fun c s hs => ?_⟩
  · rw [(hc 31 (by omega)).2.2, (hc 32 (by omega)).2.2]; exact a4 b l h1 h2
  · rw [(hc 26 (by omega)).2.2]; exact a5 x hx
  · rw [(hc 25 (by omega)).1]; exact a6
  · rw [(hc 27 (by omega)).2.2, (hc 28 (by omega)).2.2, (hc 29 (by omega)).2.2, (hc 30 (by omega)).2.2]; exact a7 c s hs
theorem MN.kp (h1 : σ.1 43 16 = υ.1 43 16) (h2 : σ.1 43 23 = υ.1 43 23) (h3 : σ.1 43 25 = υ.1 43 25) (hm : ∀ n, 53 ≤ n → n ≤ 61 → ∀ k, σ.2.2.1 n k = υ.2.2.1 n k) (h : MN υ τ bk E T f L) : MN σ τ bk E T f L := by
  obtain ⟨a1, a2, a3, a4, a5, a6⟩ := h
  refine ⟨a1.mo h1 (fun n x y k => hm n x (by omega) k), ⟨by rw [h2]; exact a2.1, fun k t hk => ?_⟩, fun k e x1 x2 x3 => ?_, fun x hx => ?_, by rw [h3]; exact a5, fun c s hs => ?_⟩
  · rw [hm 59 (by omega) (by omega), hm 59 (by omega) (by omega), hm 59 (by omega) (by omega)]; exact a2.2 k t hk
  · rw [hm 58 (by omega) (by omega)]
    simp only [hm 57 (by omega) (by omega)]
    exact a3 k e x1 x2 x3
  · rw [hm 60 (by omega) (by omega)]; exact a4 x hx
  · rw [hm 61 (by omega) (by omega)]; exact a6 c s hs
theorem FR.kp (h : FR σ) (hc : ∀ n, isF n → Eqo υ σ n) (h1 : υ.1 43 16 = σ.1 43 16) (h2 : υ.1 43 23 = σ.1 43 23) (h3 : υ.1 43 25 = σ.1 43 25) (hm : ∀ n, 53 ≤ n → n ≤ 61 → ∀ k, υ.2.2.1 n k = σ.2.2.1 n k) (ha : agT υ σ) : FR υ := by
  obtain ⟨τ, bk, E, T, f, L, a, b, c, d, e⟩ := h
  exact ⟨τ, bk, E, T, f, L, a, ha.tr b, c, d.kp hc, e.kp h1 h2 h3 hm⟩
end FRk
def Inv (σ : rS) : Prop := VX σ ∧ MX σ σ ∧ (σ.1 0 12 = 1 → FR σ)
theorem m_run_end {τ σ : rS} {bk : Nat × Nat → Bool} {E : List (Nat × Nat)} (fu : Nat) (hl : E.length ≤ 42) (hE : isN σ bk E) {ρ : rS} (hb : fX12_findBeds σ = some ((), ρ)) : lX12_run_15 (fu + 1) (nI E.length) σ = some (ρ.1 43 25, uI ρ 43 1 1) := by
  rw [lX12_run_15, hE.1.1, if_pos ((kle (by omega) (by omega)).mpr (Nat.le_refl _)), hb, Option.bind_some, vS_d, uI_nj (by omega)]
theorem s_run {σ : rS} (h : Inv σ) : ∃ v σ1 σ2, fX11_run σ = some (v, σ1) ∧ fX12_run σ1 = some (v, σ2) ∧ Inv σ2 := by
  obtain ⟨⟨hB, hA, hF, hG, hW, hT, hP⟩, ⟨mB, mA, mF, mG, mW, mT, mP⟩, _⟩ := h
  have h16 := hB.2.1
  -- the class
  obtain ⟨τ1, fK, m, a1, a2, a3, a4, a5, a6, a7⟩ := c_lay hB hF
  have a2c : Kp oC σ τ1 := a2.mono (fun n h => by omega)
  have oCC : ∀ n, oC n → oC n := fun n h => h
  have hB1 : VB τ1 := a2c.B oCC hB
  have hA1 : VA τ1 := a2c.A oCC hA
  have en : wn τ1 = wn σ := wn_kp' a2c oCC
  have ep : wP τ1 = wP σ := wP_kp a2c (fun n h => by omega)
  have eb : bkW τ1 = bkW σ := bkW_kp a2c (fun n h => by omega) (by omega)
  have net0 := (EL_net h16 a4 a5 m (Nat.le_refl _)).1
  rw [← eb] at a6 a7
  rw [← en, ← ep] at a5 a6 a7 net0
  have hF1 : VF τ1 := VF.kp (fun n hn => a2.1 n (by omega)) hF
  generalize hE : EL (wn τ1) (wP τ1) fK m = E at a6 a7 net0
  have hl : E.length ≤ 42 := net_len hB1.sound.1 hB1.sound.2.1 hB1.sound.2.2 net0
  have hm : ∀ e ∈ E, e.1 < wn τ1 ∧ e.2 < wn τ1 := fun e he => by
    obtain ⟨g1, g2, _⟩ := net0.2.1 e he
    omega
  obtain ⟨τ2, b1, b2, b3⟩ := c_all hB1 hA1 a6 hl hm
  have env2 : envC τ1 τ2 (bkW τ1) E := ⟨fun a b ha hb => by rw [(b2.1 16 (by omega)).2.2]; exact a6.2.2.2 a b ha hb, b3⟩
  obtain ⟨τ3, f, L, c1, c2, c3, c4⟩ := c_gather hB1 net0 hl (b2.mono oM_oC) env2
  obtain ⟨c41, c42, c43, c44, c45, c46, c47, c48, c49⟩ := c4
  have k13 : Kp oC τ1 τ3 := c41
  have cls : fX11_run σ = some (nI L.length, uI τ3 0 12 1) := by
    unfold fX11_run
    rw [a1, Option.bind_some, b1, Option.bind_some, c1, Option.bind_some, vS_d, uI_ne (by omega), c45]
  have kcl : Kp (fun n => n = 0 ∨ oC n) σ (uI τ3 0 12 1) := ((a2c.tr k13).mono (fun n h => Or.inr h)).tr (Kp.uI (Or.inl rfl))
  -- the model
  have r0 : ∀ n, isM n → Eqo (uI τ3 0 12 1) σ n := fun n hn => kcl.1 n (by omega)
  have q0 : ∀ n, isM n → n ≠ 43 → Eqo (uI (uI τ3 0 12 1) 43 0 0) σ n := fun n hn h43 => ((Kp.uI (O := fun n => n = 43) rfl).1 n h43).tr (r0 n hn)
  have q43 : ∀ j, j ≠ 0 → (uI (uI τ3 0 12 1) 43 0 0).1 43 j = σ.1 43 j := fun j hj => by rw [uI_nj hj]; exact (r0 43 (by omega)).1 j
  have tk : ∀ n, (n = 1 ∨ n = 3 ∨ n = 41 ∨ 80 ≤ n) → Eqo τ1 σ n := fun n hn => a2.1 n (by omega)
  have MBa : MB τ1 (uI (uI τ3 0 12 1) 43 0 0) := MB.ct h16 (fun n hn => tk n (by omega)) (MB.mo (υ := σ) (q43 2 (by omega)) (fun n x y k => (q0 n (by omega) (by omega)).2.2 k) mB)
  have MFa : MF τ1 (uI (uI τ3 0 12 1) 43 0 0) := MF.ct hF.2.1 (fun n hn => tk n (by omega)) (MF.mo (υ := σ) (q43 10 (by omega)) (fun k => (q0 51 (by omega) (by omega)).2.2 k) mF)
  have MAa : MA τ1 (uI (uI τ3 0 12 1) 43 0 0) := MA.ct (tk 41 (by omega)) (MA.mo (υ := σ) (fun k => (q0 50 (by omega) (by omega)).2.2 k) mA)
  obtain ⟨ρ1, d1, d2, d3, d4⟩ := m_edges hB1 hF1 a3 a4 a5 MBa MFa
  rw [hE] at d4
  have MBb : MB τ1 ρ1 := MBa.mo (d3 2 (by omega)) (fun n x y k => (d2.1 n (by omega)).2.2 k)
  have MAb : MA τ1 ρ1 := MAa.mo (fun k => (d2.1 50 (by omega)).2.2 k)
  obtain ⟨ρ2, e1, e2, e3⟩ := m_tris hB1 MBb d4 net0
  have MBc : MB τ1 ρ2 := MBb.mo (e2.2 2 (by omega)) (fun n x y k => (e2.1.1 n (by omega)).2.2 k)
  have MAc : MA τ1 ρ2 := MAb.mo (fun k => (e2.1.1 50 (by omega)).2.2 k)
  have Nc : isN ρ2 (bkW τ1) E := d4.mo (e2.2 16 (by omega)) (fun n x y k => (e2.1.1 n (by omega)).2.2 k)
  obtain ⟨ρ3, fu, g1, g2, g3⟩ := mrun_loop hB1 hA1 hl hm E.length 0 1000 ρ2 (by omega) (by omega) MBc MAc Nc (fun k e h => by omega)
  have MBd : MB τ1 ρ3 := MBc.q g2 oQ_b
  have Nd : isN ρ3 (bkW τ1) E := Nc.mo ((g2.1 43 (by omega)).1 _) (fun n x y k => (g2.1 n (by omega)).2.2 k)
  obtain ⟨ρ4, f', L', i1, i2, i3⟩ := m_beds hB1 net0 hl (σ := ρ3) ⟨MBd, Nd, g3⟩
  obtain ⟨i31, i32, i33, i34, i35, i36, i37, i38, i39⟩ := i3
  have ef : f = f' := funext (good_f c3 i2)
  have eL : L = L' := good_L c3 i2
  subst ef eL
  have md : fX12_run (uI τ3 0 12 1) = some (nI L.length, uI ρ4 43 1 1) := by
    unfold fX12_run
    rw [show nI 0 = 0 from rfl] at g1
    rw [vS_d, d1, Option.bind_some, e1, Option.bind_some, g1, m_run_end (τ := τ1) fu hl Nd i1, i35]
  -- frames
  have kM : Kp (fun n => n = 43 ∨ (53 ≤ n ∧ n ≤ 62)) (uI τ3 0 12 1) (uI ρ4 43 1 1) := ((((Kp.uI (by omega)).tr (d2.mono (fun n h => by omega))).tr (e2.1.mono (fun n h => by omega))).tr (g2.mono (fun n h => by omega))).tr ((i31.mono (fun n h => by omega)).tr (Kp.uI (by omega)))
  have f43 : ∀ j, j ≠ 0 → j ≠ 1 → j ≠ 16 → j ≠ 23 → j ≠ 25 → (uI ρ4 43 1 1).1 43 j = σ.1 43 j := fun j h0 h1 h2 h3 h4 => by
    rw [uI_nj h1, i32 j h4, (g2.1 43 (by omega)).1, e2.2 j h3, d3 j h2, q43 j h0]
  have ag : ∀ n, isM n → n ≠ 43 → ¬ (53 ≤ n ∧ n ≤ 62) → Eqo (uI ρ4 43 1 1) σ n := fun n h1 h2 h3 => (kM.1 n (by omega)).tr (r0 n h1)
  have tg : ∀ n, ¬ isM n → ¬ oC n → n ≠ 0 → Eqo (uI ρ4 43 1 1) σ n := fun n h1 h2 h3 => (kM.1 n (by omega)).tr (kcl.1 n (by omega))
  have z0 : ∀ j, j ≠ 12 → (uI ρ4 43 1 1).1 0 j = σ.1 0 j := fun j hj => by
    rw [(kM.1 0 (by omega)).1, uI_nj hj, (k13.1 0 (by omega)).1, (a2.1 0 (by omega)).1]
  have z12 : (uI ρ4 43 1 1).1 0 12 = 1 := by rw [(kM.1 0 (by omega)).1, uI_eq]
  have bts : (uI ρ4 43 1 1).2.2.2.2 = σ.2.2.2.2 := by rw [kM.2, kcl.2]
  have f1 : (uI ρ4 43 1 1).1 43 1 = 1 := uI_eq _ _ _ _
  refine ⟨nI L.length, uI τ3 0 12 1, uI ρ4 43 1 1, cls, md, ⟨?_, ?_, ?_, ?_, ?_, ?_, ?_⟩, ⟨?_, ?_, ?_, ?_, ?_, ?_, ?_⟩, fun _ => ⟨τ1, bkW τ1, E, _, f, L, hB1, ?_, ⟨net0, rfl, c3⟩, ?_, ?_⟩⟩
  · exact VB.kp (fun n hn => tg n (by omega) (by omega) (by omega)) hB
  · exact VA.kp (tg 41 (by omega) (by omega) (by omega)) hA
  · exact VF.kp (fun n hn => tg n (by omega) (by omega) (by omega)) hF
  · exact ⟨by rw [z0 10 (by omega)]; exact hG.1, by rw [z0 11 (by omega)]; exact hG.2.1, Or.inr z12⟩
  · exact VW.kp (fun n x y => tg n (by omega) (by omega) (by omega)) hW
  · exact VT.kp ((tg 38 (by omega) (by omega) (by omega)).1 1) (tg 39 (by omega) (by omega) (by omega)) hT
  · exact VP.kp (tg 40 (by omega) (by omega) (by omega)) bts hP
  · exact MB.ct h16 (fun n hn => tg n (by omega) (by omega) (by omega)) (MB.mo (υ := σ) (f43 2 (by omega) (by omega) (by omega) (by omega) (by omega)) (fun n x y k => (ag n (by omega) (by omega) (by omega)).2.2 k) mB)
  · exact MA.ct (tg 41 (by omega) (by omega) (by omega)) (MA.mo (υ := σ) (fun k => (ag 50 (by omega) (by omega) (by omega)).2.2 k) mA)
  · exact MF.ct hF.2.1 (fun n hn => tg n (by omega) (by omega) (by omega)) (MF.mo (υ := σ) (f43 10 (by omega) (by omega) (by omega) (by omega) (by omega)) (fun k => (ag 51 (by omega) (by omega) (by omega)).2.2 k) mF)
  · exact ⟨by rw [f43 12 (by omega) (by omega) (by omega) (by omega) (by omega), z0 10 (by omega)]; exact mG.1, by rw [f43 13 (by omega) (by omega) (by omega) (by omega) (by omega), z0 11 (by omega)]; exact mG.2.1, by rw [f1, z12]⟩
  · exact MW.ct (fun n x y => tg n (by omega) (by omega) (by omega)) (MW.mo (υ := σ) (f43 14 (by omega) (by omega) (by omega) (by omega) (by omega)) (fun k => (ag 52 (by omega) (by omega) (by omega)).2.2 k) mW)
  · exact MT.ct ((tg 38 (by omega) (by omega) (by omega)).1 1) (tg 39 (by omega) (by omega) (by omega)) (MT.mo (υ := σ) (f43 31 (by omega) (by omega) (by omega) (by omega) (by omega)) (fun k => (ag 63 (by omega) (by omega) (by omega)).2.2 k) mT)
  · exact MP.ct (tg 40 (by omega) (by omega) (by omega)) bts (MP.mo (υ := σ) (f43 37 (by omega) (by omega) (by omega) (by omega) (by omega)) (fun k => (ag 67 (by omega) (by omega) (by omega)).2.2 k) mP)
  · have x1 : agT (uI ρ4 43 1 1) σ := agT.of (tg 1 (by omega) (by omega) (by omega)) (fun n x y => tg n (by omega) (by omega) (by omega)) h16
    have x2 : agT σ τ1 := agT.of (a2.1 1 (by omega)).sy (fun n x y => (a2.1 n (by omega)).sy) (by rw [en]; exact h16)
    exact x1.tr x2
  · have C3 : CN τ3 τ1 (bkW τ1) E (TL (wn τ1) (wP τ1) (nbE (bkW τ1) E)) f L := by
      refine ⟨?_, ?_, c42.2, c43, c44, c45, c49.1⟩
      · exact isE.kp (fun n hn => (c2.1 n (by omega)).tr (b2.1 n (by omega))) a6
      · exact isTr.kp (fun n hn => (c2.1 n (by omega)).tr (b2.1 n (by omega))) a7
    exact C3.kp (fun n hn => (kM.1 n (by omega)).tr ((Kp.uI (O := fun n => n = 0) rfl).1 n (by omega)))
  · have M4 : MN ρ4 τ1 (bkW τ1) E (TL (wn τ1) (wP τ1) (nbE (bkW τ1) E)) f L := by
      refine ⟨i33.2.1, ⟨?_, fun k t hk => ?_⟩, i33.2.2, i34, i35, i39⟩
      · rw [i32 23 (by omega), (g2.1 43 (by omega)).1]; exact e3.1
      · rw [(i31.1 59 (by omega)).2.2, (i31.1 59 (by omega)).2.2, (i31.1 59 (by omega)).2.2, (g2.1 59 (by omega)).2.2, (g2.1 59 (by omega)).2.2, (g2.1 59 (by omega)).2.2]
        exact e3.2 k t hk
    exact M4.kp (uI_nj (by omega)) (uI_nj (by omega)) (uI_nj (by omega)) (fun n x y k => rfl)
