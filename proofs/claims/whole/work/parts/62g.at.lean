/-! at, wet. -/
theorem q_okL {σ ω ω2 : rS} {c : rS → Option (Int32 × rS)} {m : rS → Option (Int64 × rS)} {v : Int64} (h : Inv σ) (kz : Fr isZ σ ω) (hb : ω.2.2.2.2 = σ.2.2.2.2) (hc : c σ = some (0, uO ω 0 v)) (hm : m (uO ω 0 v) = some (v, ω2)) (s2 : sL (uI (uO ω 0 v) 43 0 0) ω2) (k2 : Kp oL (uI (uO ω 0 v) 43 0 0) ω2) : stepL c m σ := by
  refine ⟨0, _, v, ω2, hc, hm, by rw [s2.1, uI_eq], fun _ => by rw [s2.2]; rfl, ?_⟩
  refine asmQ (σ1 := uO ω 0 v) (O2 := fun n => n = 43) (J := fun j => j = 0) h (kz.tr Fr.uO) hb ((Kp.uI (O := fun n => n = 43) rfl).tr k2).1 (by rw [k2.2]; rfl) (fun j hj => by rw [s2.1, uI_nj hj]) (fun n z => Or.inl z) (fun j z => z)
theorem q_noL {σ : rS} {c : rS → Option (Int32 × rS)} {m : rS → Option (Int64 × rS)} {k : Int32} (h : Inv σ) (hk : k ≠ 0) (hc : c σ = some (k, σ)) (hm : m σ = some (0, uI (uI σ 43 0 0) 43 0 k)) : stepL c m σ := ⟨k, _, 0, _, hc, hm, uI_eq _ _ _ _, fun z => absurd z hk, inv_no (inv_no h 0) k⟩
section At
variable {σ ρ τ : rS} {bk : Nat × Nat → Bool} {E : List (Nat × Nat)} {T : List (Nat × Nat × Nat)} {f : Nat → Option Nat} {L : List Nat}
theorem PU.tri (h : PU τ bk E T f L) : ∀ t ∈ T, t.1 < wn τ ∧ t.2.1 < wn τ ∧ t.2.2 < wn τ ∧ tz (wP τ t.1) (wP τ t.2.1) (wP τ t.2.2) ≠ 0 := fun t ht => by
  rw [h.2.1] at ht
  obtain ⟨a1, a2, a3, a4, a5⟩ := taL_m (by omega) ht
  refine ⟨by omega, by omega, a4, ?_⟩
  unfold triB at a5
  simp only [Bool.and_eq_true, decide_eq_true_eq] at a5
  exact a5.2.2.2.1
theorem okP_r {x y : Int32} (h : okP x y = true) : okR (-1000) 1000 x ∧ okR (-1000) 1000 y := by
  unfold okP at h
  rw [Bool.and_eq_true] at h
  exact ⟨okB_t.mp h.1, okB_t.mp h.2⟩
theorem c_plc {x y : Int32} (σ : rS) (h : okP x y = true) : fX11_requirePlace x y σ = some (.ok (), σ) := by
  unfold fX11_requirePlace
  rw [c_place, h, Option.bind_some]
  rfl
theorem c_plc0 {x y : Int32} (σ : rS) (h : okP x y = false) : fX11_requirePlace x y σ = some (.error "java/lang/IllegalArgumentException", σ) := by
  unfold fX11_requirePlace
  rw [c_place, h, Option.bind_some]
  rfl
theorem sL_n0 (σ : rS) : sL σ σ := ⟨rfl, rfl⟩
/-- class and model find the same level -/
theorem both {ω : rS} (h : Inv σ) (q1 : VB τ) (q2 : agT σ τ) (q3 : PU τ bk E T f L) (q4 : CN σ τ bk E T f L) (q5 : MN σ τ bk E T f L) {x y : Int32} (hp : okP x y = true) {S : List (Nat × (Nat × Nat × Nat))} (kω : Kp oS' σ ω) (hS : isAr ω (wP τ) (zp x y) T S) (hS2 : S.map (·.2) = T.filter (inT (wP τ) (zp x y))) (hO : ω.1 34 3 = oI (own (wn τ) (wP τ) (zp x y))) {n1 : Nat} {a A B : Int32} {Lv : Nat → Option Int} (hC : levC ω n1 a (wn τ) Lv) (ok : okL Lv (wn τ)) {υ : rS} (hs : sL ω υ) (hM : ∀ ρ, MN ρ τ bk E T f L → MB σ ρ → MW σ ρ → levM ρ A B (wn τ) Lv) : ∃ ω2, fX9_find n1 a υ = some ((), ω2) ∧ sL ω ω2 ∧ Kp oS' υ ω2 ∧ ∀ ρ ν, MN ρ τ bk E T f L → MB σ ρ → MW σ ρ → sL ρ ν → ∃ ν2, fX12_findLevel A B x y ν = some ((), ν2) ∧ sL ρ ν2 ∧ Kp oL ν ν2 ∧ ν2.2.1 43 29 = ω2.2.1 34 0 ∧ ν2.2.1 43 30 = ω2.2.1 34 1 := by
  obtain ⟨hx, hy⟩ := okP_r hp
  have l27 := q3.T27 q1
  have agω : agT ω τ := by
    have : agT ω σ := agT.of (kω.1 1 (by omega)) (fun n z1 z2 => kω.1 n (by omega)) h.1.1.2.1
    exact this.tr q2
  have hTω : isTr ω (wP τ) T := isTr.kp (fun n hn => kω.1 n (by omega)) q4.2.1
  obtain ⟨ω2, u1, u2, u3, u4, u5⟩ := c_findL q1 agω hTω l27 q3.tri (zp_ok hx hy) hC ok hS hS2 hO hs
  refine ⟨ω2, u1, u2, u3, fun ρ ν hN hB hW hν => ?_⟩
  obtain ⟨ν2, v1, v2, v3, v4, v5⟩ := m_findL q1 hB q2 hN.2.1 l27 q3.tri (hM ρ hN hB hW) ok (zp_ok hx hy) hν
  exact ⟨ν2, v1, v2, v3, l_eq (v4.trans u4.symm), l_eq (v5.trans u5.symm)⟩
theorem lev_b (h : Inv σ) (q1 : VB τ) (q2 : agT σ τ) (q3 : PU τ bk E T f L) (q4 : CN σ τ bk E T f L) {ω : rS} (kω : Kp oS' σ ω) {c : Nat} (hc : c < 192) : levC ω 25 (nI c) (wn τ) (lvB τ f c) ∧ okL (lvB τ f c) (wn τ) ∧ ∀ ρ, MN ρ τ bk E T f L → MB σ ρ → MW σ ρ → levM ρ (nI c) (-1) (wn τ) (lvB τ f c) := by
  have C := q4.kp (υ := ω) (fun n hn => kω.1 n (by omega))
  exact ⟨c_levB q1 (q3.ok q1) C.2.2.2.2.1 C.2.2.2.1 hc, lvB_ok q1 (q3.ok q1) c, fun ρ hN hB hW => m_levB q1 hB q2 (q3.ok q1) hN.2.2.2.1 ⟨_, hW.1, h.1.2.2.2.2.1.2.1⟩ hc⟩
theorem lev_w (h : Inv σ) (q1 : VB τ) (q2 : agT σ τ) {ω : rS} (kω : Kp oS' σ ω) (w : Int32) : levC ω 6 w (wn τ) (lvW σ w) ∧ okL (lvW σ w) (wn τ) ∧ ∀ ρ, MN ρ τ bk E T f L → MB σ ρ → MW σ ρ → levM ρ (-1) w (wn τ) (lvW σ w) := by
  have hW := h.1.2.2.2.2.1
  have hWω : VW ω := VW.kp (fun n z1 z2 => kω.1 n (by omega)) hW
  have e : lvW ω w = lvW σ w := funext fun b => by
    unfold lvW
    have e1 : wkB ω (nI b) w = wkB σ (nI b) w := funext fun j => by unfold wkB; rw [(kω.1 7 (by omega)).2.2, (kω.1 8 (by omega)).2.2]
    have e2 : ww ω = ww σ := ww_kp (kω.1 6 (by omega))
    have e3 : (fun k => (ω.2.2.1 9 k).toInt) = fun k => (σ.2.2.1 9 k).toInt := funext fun k => by rw [(kω.1 9 (by omega)).2.2]
    rw [e1, e2, e3]
  have C := c_levW q1 hWω w
  rw [e] at C
  exact ⟨C, lvW_ok hW w _, fun ρ hN hB hMW => m_levW q1 h.1.1 hB q2 hW hMW⟩
theorem MW.out {σ ρ : rS} (h : MW σ ρ) (i : Nat) (w : Int64) : MW σ (uO ρ i w) := MW.mo (υ := ρ) rfl (fun _ => rfl) h
theorem MW.n0 {σ ρ : rS} (h : MW σ ρ) (v : Int32) : MW σ (uI ρ 43 0 v) := MW.mo (υ := ρ) (uI_nj (by omega)) (fun _ => rfl) h
theorem oS_Z {ω : rS} (h : Kp oS' σ ω) : Fr isZ σ ω := (h.mono (fun n z => by omega)).1
/-- the model's store behind the class's call -/
theorem aft {ω : rS} (h : Inv σ) (q5 : MN σ τ bk E T f L) (k : Kp oS' σ ω) (v : Int64) : MN (uI (uO ω 0 v) 43 0 0) τ bk E T f L ∧ MB σ (uI (uO ω 0 v) 43 0 0) ∧ MW σ (uI (uO ω 0 v) 43 0 0) := by
  have a : MN ω τ bk E T f L := MN.kp (υ := σ) ((k.1 43 (by omega)).1 _) ((k.1 43 (by omega)).1 _) ((k.1 43 (by omega)).1 _) (fun n z1 z2 j => (k.1 n (by omega)).2.2 j) q5
  have b : MB σ ω := MB.mo (υ := σ) ((k.1 43 (by omega)).1 _) (fun n z1 z2 j => (k.1 n (by omega)).2.2 j) h.2.1.1
  have c : MW σ ω := MW.mo (υ := σ) ((k.1 43 (by omega)).1 _) (fun j => (k.1 52 (by omega)).2.2 j) h.2.1.2.2.2.2.1
  exact ⟨(a.out 0 v).n0 0, (b.out 0 v).n0 0, (c.out 0 v).n0 0⟩
theorem s_at (h : Inv σ) (a x y w : Int32) : stepL (fL_at a x y w) (fX12_at_ a x y w) σ := by
  rcases fresh01 h with ⟨f0, m0⟩ | ⟨f1, m1⟩
  · refine q_noL (k := 1) h (by decide) ?_ ?_
    · unfold fL_at fX11_at
      rw [c_run0 f0]; rfl
    · unfold fX12_at_ jX12_at__65
      rw [m_old0 m0, Option.bind_some]
      dsimp only
      rw [if_neg (by decide)]
  · obtain ⟨τ, bk, E, T, f, L, q1, q2, q3, q4, q5⟩ := h.2.2 f1
    have l192 := q3.L192 q1
    have r := c_run1 f1
    have oo : okB (0 : Int32).toInt (1 : Int32).toInt w = okB 0 1 w := rfl
    cases c1 : okN L.length a with
    | false =>
      refine q_noL (k := 2) h (by decide) ?_ ?_
      · unfold fL_at fX11_at
        rw [r, Option.bind_some]
        dsimp only
        rw [q4.2.2.2.2.2.1, c_idx0 (by omega) σ c1]
        rfl
      · have N := q5.n0 0
        unfold fX12_at_ jX12_at__27 jX12_at__65
        rw [m_old1 m1, Option.bind_some]
        dsimp only
        rw [if_pos rfl, N.2.2.2.2.1, m_idx (by omega), c1, bI_f, Option.bind_some]
        dsimp only
        rw [if_pos rfl, m_fails1 (uI_eq _ _ _ _) (by decide), Option.bind_some]
        dsimp only
        rw [if_neg (by decide)]
    | true =>
      obtain ⟨ea, la⟩ := okN_i c1
      generalize hk : a.toNatClampNeg = c at la ea
      subst ea
      have mdl : ∀ ρ : rS, MN ρ τ bk E T f L → ρ.1 43 1 = 1 → fX12_at_ (nI c) x y w ρ = (if okP x y = true ∧ okB 0 1 w = true then ((fX12_findLevel (nI c) (-1) x y (uI ρ 43 0 0)).bind fun q13 => if w = 0 then some (q13.2.2.1 43 29, q13.2) else some (q13.2.2.1 43 30, q13.2)) else some (0, uI (uI ρ 43 0 0) 43 0 3)) := fun ρ hN hρ => by
        have N := hN.n0 0
        unfold fX12_at_ jX12_at__27 jX12_at__53 jX12_at__58 jX12_at__65 jX12_at__91
        rw [m_old1 hρ, Option.bind_some]
        dsimp only
        rw [if_pos rfl, N.2.2.2.2.1, m_idx (by omega), c1, bI_t, Option.bind_some]
        dsimp only
        rw [if_neg (by decide), m_fails0 (uI_eq _ _ _ _), Option.bind_some]
        dsimp only
        rw [if_pos rfl, m_place, Option.bind_some]
        simp only [bI_0, m_from, oo, Option.bind_some, m_fails1 (uI_eq ρ 43 0 0) (show ¬ (3 : Int32) ≤ 0 by decide), m_fails0 (uI_eq ρ 43 0 0), (show ¬ (1 : Int32) = 0 by decide), if_false, if_true]
        cases okP x y <;> cases okB 0 1 w <;> simp
      by_cases c2 : okP x y = true ∧ okB 0 1 w = true
      · obtain ⟨hx, hy⟩ := okP_r c2.1
        obtain ⟨ω, S, g1, g2, g3, g4, g5⟩ := c_goTo q1 q2 h.1.1 q4.2.1 (q3.T27 q1) (fun t ht => ⟨(q3.tri t ht).1, (q3.tri t ht).2.1, (q3.tri t ht).2.2.1⟩) hx hy
        obtain ⟨l1, l2, l3⟩ := lev_b h q1 q2 q3 q4 g2 (show c < 192 by omega)
        obtain ⟨ω2, u1, u2, u3, u4⟩ := both h q1 q2 q3 q4 q5 c2.1 g2 g3 g4 g5 l1 l2 (sL.rf ω) l3
        have kω2 : Kp oS' σ ω2 := g2.tr u3
        obtain ⟨n1, n2, n3⟩ := aft h q5 kω2 (if w = 0 then ω2.2.1 34 0 else ω2.2.1 34 1)
        obtain ⟨ν2, v1, v2, v3, v4, v5⟩ := u4 _ _ n1 n2 n3 (sL.rf _)
        refine q_okL (v := if w = 0 then ω2.2.1 34 0 else ω2.2.1 34 1) h (oS_Z kω2) (by rw [kω2.2]) ?_ ?_ v2 v3
        · unfold fL_at fX11_at jX11_at_82
          rw [r, Option.bind_some]
          dsimp only
          rw [q4.2.2.2.2.2.1, c_idx (by omega) σ c1, Option.bind_some]
          dsimp only
          rw [c_plc σ c2.1, Option.bind_some]
          dsimp only
          rw [c_frm σ (oo.trans c2.2), Option.bind_some]
          dsimp only
          rw [g1, Option.bind_some]
          dsimp only
          rw [u1, Option.bind_some]
          dsimp only
          by_cases z : w = 0
          · rw [if_pos z, if_pos z, Option.bind_some]
            dsimp only
            rw [in01, if_pos rfl, vS_d, cl0]
          · rw [if_neg z, if_neg z, Option.bind_some]
            dsimp only
            rw [in01, if_pos rfl, vS_d, cl0]
        · have m1ω : (uO ω2 0 (if w = 0 then ω2.2.1 34 0 else ω2.2.1 34 1)).1 43 1 = 1 := by
            show ω2.1 43 1 = 1
            rw [(kω2.1 43 (by omega)).1]
            exact m1
          have q5ω : MN (uO ω2 0 (if w = 0 then ω2.2.1 34 0 else ω2.2.1 34 1)) τ bk E T f L := (MN.kp (υ := σ) ((kω2.1 43 (by omega)).1 _) ((kω2.1 43 (by omega)).1 _) ((kω2.1 43 (by omega)).1 _) (fun n z1 z2 j => (kω2.1 n (by omega)).2.2 j) q5).out 0 _
          rw [mdl _ q5ω m1ω, if_pos c2, v1, Option.bind_some]
          dsimp only
          rw [v4, v5]
          by_cases z : w = 0
          · rw [if_pos z, if_pos z]
          · rw [if_neg z, if_neg z]
      · refine q_noL (k := 3) h (by decide) ?_ ?_
        · unfold fL_at fX11_at
          rw [r, Option.bind_some]
          dsimp only
          rw [q4.2.2.2.2.2.1, c_idx (by omega) σ c1, Option.bind_some]
          dsimp only
          cases p1 : okP x y with
          | false => rw [c_plc0 σ p1]; rfl
          | true =>
            rw [c_plc σ p1, Option.bind_some]
            dsimp only
            rw [c_frm0 σ (oo.trans (by cases p2 : okB 0 1 w with
              | false => rfl
              | true => exact absurd ⟨p1, p2⟩ c2))]
            rfl
        · rw [mdl σ q5 m1, if_neg c2]
theorem s_wet (h : Inv σ) (a x y w : Int32) : stepL (fL_wet a x y w) (fX12_wet a x y w) σ := by
  rcases fresh01 h with ⟨f0, m0⟩ | ⟨f1, m1⟩
  · refine q_noL (k := 1) h (by decide) ?_ ?_
    · unfold fL_wet fX11_wet
      rw [c_run0 f0]; rfl
    · unfold fX12_wet jX12_wet_48
      rw [m_old0 m0, Option.bind_some]
      dsimp only
      rw [if_neg (by decide)]
  · obtain ⟨τ, bk, E, T, f, L, q1, q2, q3, q4, q5⟩ := h.2.2 f1
    have r := c_run1 f1
    have oo : okB (0 : Int32).toInt (1 : Int32).toInt w = okB 0 1 w := rfl
    have oa : okB (0 : Int32).toInt (99 : Int32).toInt a = okB 0 99 a := rfl
    have mdl : ∀ ρ : rS, ρ.1 43 1 = 1 → fX12_wet a x y w ρ = (if okB 0 99 a = true ∧ okP x y = true ∧ okB 0 1 w = true then ((fX12_findLevel (-1) a x y (uI ρ 43 0 0)).bind fun q13 => if w = 0 then some (q13.2.2.1 43 29, q13.2) else some (q13.2.2.1 43 30, q13.2)) else some (0, uI (uI ρ 43 0 0) 43 0 2)) := fun ρ hρ => by
      unfold fX12_wet jX12_wet_36 jX12_wet_41 jX12_wet_48 jX12_wet_74
      rw [m_old1 hρ, Option.bind_some]
      dsimp only
      rw [if_pos rfl, m_from, Option.bind_some]
      simp only [bI_0, m_from, m_place, oo, oa, Option.bind_some, m_fails1 (uI_eq ρ 43 0 0) (show ¬ (2 : Int32) ≤ 0 by decide), m_fails0 (uI_eq ρ 43 0 0), (show ¬ (1 : Int32) = 0 by decide), if_false, if_true]
      cases okB 0 99 a <;> cases okP x y <;> cases okB 0 1 w <;> simp
    by_cases c2 : okB 0 99 a = true ∧ okP x y = true ∧ okB 0 1 w = true
    · obtain ⟨hx, hy⟩ := okP_r c2.2.1
      obtain ⟨ω, S, g1, g2, g3, g4, g5⟩ := c_goTo q1 q2 h.1.1 q4.2.1 (q3.T27 q1) (fun t ht => ⟨(q3.tri t ht).1, (q3.tri t ht).2.1, (q3.tri t ht).2.2.1⟩) hx hy
      obtain ⟨l1, l2, l3⟩ := lev_w (bk := bk) (E := E) (T := T) (f := f) (L := L) h q1 q2 g2 a
      obtain ⟨ω2, u1, u2, u3, u4⟩ := both h q1 q2 q3 q4 q5 c2.2.1 g2 g3 g4 g5 l1 l2 (sL.rf ω) l3
      have kω2 : Kp oS' σ ω2 := g2.tr u3
      obtain ⟨n1, n2, n3⟩ := aft h q5 kω2 (if w = 0 then ω2.2.1 34 0 else ω2.2.1 34 1)
      obtain ⟨ν2, v1, v2, v3, v4, v5⟩ := u4 _ _ n1 n2 n3 (sL.rf _)
      refine q_okL (v := if w = 0 then ω2.2.1 34 0 else ω2.2.1 34 1) h (oS_Z kω2) (by rw [kω2.2]) ?_ ?_ v2 v3
      · unfold fL_wet fX11_wet jX11_wet_78
        rw [r, Option.bind_some]
        dsimp only
        rw [c_frm σ (oa.trans c2.1), Option.bind_some]
        dsimp only
        rw [c_plc σ c2.2.1, Option.bind_some]
        dsimp only
        rw [c_frm σ (oo.trans c2.2.2), Option.bind_some]
        dsimp only
        rw [g1, Option.bind_some]
        dsimp only
        rw [u1, Option.bind_some]
        dsimp only
        by_cases z : w = 0
        · rw [if_pos z, if_pos z, Option.bind_some]
          dsimp only
          rw [in01, if_pos rfl, vS_d, cl0]
        · rw [if_neg z, if_neg z, Option.bind_some]
          dsimp only
          rw [in01, if_pos rfl, vS_d, cl0]
      · have m1ω : (uO ω2 0 (if w = 0 then ω2.2.1 34 0 else ω2.2.1 34 1)).1 43 1 = 1 := by
          show ω2.1 43 1 = 1
          rw [(kω2.1 43 (by omega)).1]
          exact m1
        rw [mdl _ m1ω, if_pos c2, v1, Option.bind_some]
        dsimp only
        rw [v4, v5]
        by_cases z : w = 0
        · rw [if_pos z, if_pos z]
        · rw [if_neg z, if_neg z]
    · refine q_noL (k := 2) h (by decide) ?_ ?_
      · unfold fL_wet fX11_wet
        rw [r, Option.bind_some]
        dsimp only
        cases p0 : okB 0 99 a with
        | false => rw [c_frm0 σ (oa.trans p0)]; rfl
        | true =>
          rw [c_frm σ (oa.trans p0), Option.bind_some]
          dsimp only
          cases p1 : okP x y with
          | false => rw [c_plc0 σ p1]; rfl
          | true =>
            rw [c_plc σ p1, Option.bind_some]
            dsimp only
            rw [c_frm0 σ (oo.trans (by cases p2 : okB 0 1 w with
              | false => rfl
              | true => exact absurd ⟨p0, p1, p2⟩ c2))]
            rfl
      · rw [mdl σ m1, if_neg c2]
end At
