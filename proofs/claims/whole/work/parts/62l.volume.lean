/-! volume, all. -/
section Vol4
variable {σ ρ τ : rS} {bk : Nat × Nat → Bool} {E : List (Nat × Nat)} {T : List (Nat × Nat × Nat)} {f : Nat → Option Nat} {L : List Nat}
theorem m_vol2 (hv : VB τ) (hM : MB σ ρ) (ag : agT σ τ) (q3 : PU τ bk E T f L) (hN : MN ρ τ bk E T f L) (hLv : ∀ c, c < 192 → levM ρ (nI c) (-1) (wn τ) (lvB τ f c)) {q : Nat} (hq : q ≤ 100) (hl12 : ρ.1 43 12 = nI q) (kd x0 y0 x1 y1 : Int32) {k38 : Int32 → Int32 → Int32 → Int32 → Int32 → Int64 → Int32 → rS → Option (Int64 × rS)} {k : Nat} {t : Nat × Nat × Nat} (ht : T[k]? = some t) (v : Int64) : lX12_volume_53 k38 1000 kd x0 y0 x1 y1 v (nI k) 1 0 ρ = k38 kd x0 y0 x1 y1 (v + vlT τ f (kdB τ L kd) q L.length x0 y0 x1 y1 t) (nI (k + 1)) ρ := by
  have h16 := hv.2.1
  have l27 := q3.T27 hv
  have l192 := q3.L192 hv
  have kl := (List.getElem?_eq_some_iff.mp ht).1
  obtain ⟨m1, m2, m3, nz⟩ := q3.tri t (List.mem_of_getElem? ht)
  obtain ⟨y1', y2', y3'⟩ := hN.2.1.2 k t ht
  have e0 : (3 : Int32) * nI k + 0 = nI (3 * k) := by
    show nI 3 * nI k + nI 0 = _
    rw [kmul, kadd]
    rfl
  have e1 : (3 : Int32) * nI k + 1 = nI (3 * k + 1) := by
    show nI 3 * nI k + nI 1 = _
    rw [kmul, kadd]
  have e2 : (3 : Int32) * nI k + 2 = nI (3 * k + 2) := by
    show nI 3 * nI k + nI 2 = _
    rw [kmul, kadd]
  have e00 : (3 : Int32) * nI k = nI (3 * k) := kmul 3 k
  have pos : ∀ b, b < wn τ → (ρ.2.2.1 44 b).toInt = (wP τ b).1 ∧ (ρ.2.2.1 45 b).toInt = (wP τ b).2 := fun b hb => by
    have := mq hM (show b < wn σ by rw [ag.1]; exact hb)
    rw [ag.P hb] at this
    rw [← this]
    exact ⟨rfl, rfl⟩
  have st : ∀ (b i : Nat), b < wn τ → i < 3 → ∀ (fu : Nat) (w : Int32) (bx : Bool), ¬ 3 ≤ w → (3 : Int32) * nI k + w = nI (3 * k + i) → ρ.2.2.1 59 (3 * k + i) = nI b → lX12_volume_53 k38 (fu + 1) kd x0 y0 x1 y1 v (nI k) (bI bx) w ρ = lX12_volume_53 k38 fu kd x0 y0 x1 y1 v (nI k) (bI (bx && bxB (wP τ) x0 y0 x1 y1 b)) (w + 1) ρ := fun b i hb hi fu w bx hw he h59 => by
    obtain ⟨px, py⟩ := pos b hb
    rw [lX12_volume_53, if_neg hw, he, kinB (by omega), decide_eq_true (show 3 * k + i < 1680 by omega), if_pos rfl, kc (by omega), h59, vI_d]
    unfold jX12_volume_114 jX12_volume_115
    simp only [kinB (show b < 2147483648 by omega), decide_eq_true (show b < 16 by omega), if_true, kc (show b < 2147483648 by omega), m_from, Option.bind_some, bI_0, vI_d]
    unfold bxB okB
    rw [px, py]
    cases bx <;> cases decide (x0.toInt ≤ (wP τ b).1 ∧ (wP τ b).1 ≤ x1.toInt) <;> cases decide (y0.toInt ≤ (wP τ b).2 ∧ (wP τ b).2 ≤ y1.toInt) <;> rfl
  have cT := crossL_i (ax := ρ.2.2.1 44 t.1) (ay := ρ.2.2.1 45 t.1) (bx := ρ.2.2.1 44 t.2.1) (by' := ρ.2.2.1 45 t.2.1) (px := ρ.2.2.1 44 t.2.2) (py := ρ.2.2.1 45 t.2.2)
  have zq : ∀ b, b < wn τ → zp (ρ.2.2.1 44 b) (ρ.2.2.1 45 b) = wP τ b := fun b hb => by rw [mq hM (show b < wn σ by rw [ag.1]; exact hb), ag.P hb]
  rw [zq t.1 m1, zq t.2.1 m2, zq t.2.2 m3] at cT
  have cT := cT (wP_ok hv m1).2 (wP_ok hv m2).2 (wP_ok hv m3).2
  unfold crossL at cT
  have B : -8000000 ≤ tz (wP τ t.1) (wP τ t.2.1) (wP τ t.2.2) ∧ tz (wP τ t.1) (wP τ t.2.1) (wP τ t.2.2) ≤ 8000000 := tzB (wP_ok hv m1).2 (wP_ok hv m2).2 (wP_ok hv m3).2
  show lX12_volume_53 k38 (996 + 1 + 1 + 1 + 1) kd x0 y0 x1 y1 v (nI k) (bI true) 0 ρ = _
  rw [st t.1 0 m1 (by omega) (996 + 1 + 1 + 1) 0 true (by decide) e0 y1']
  show lX12_volume_53 k38 (996 + 1 + 1 + 1) kd x0 y0 x1 y1 v (nI k) _ 1 ρ = _
  rw [st t.2.1 1 m2 (by omega) (996 + 1 + 1) 1 _ (by decide) e1 y2']
  show lX12_volume_53 k38 (996 + 1 + 1) kd x0 y0 x1 y1 v (nI k) _ 2 ρ = _
  rw [st t.2.2 2 m3 (by omega) (996 + 1) 2 _ (by decide) e2 y3']
  show lX12_volume_53 k38 (996 + 1) kd x0 y0 x1 y1 v (nI k) _ 3 ρ = _
  have bx : (((true && bxB (wP τ) x0 y0 x1 y1 t.1) && bxB (wP τ) x0 y0 x1 y1 t.2.1) && bxB (wP τ) x0 y0 x1 y1 t.2.2) = bxT (wP τ) x0 y0 x1 y1 t := by
    unfold bxT
    rw [Bool.true_and, Bool.and_assoc]
  have f1 : nI (3 * k) + 1 = nI (3 * k + 1) := k1 _
  have f2 : nI (3 * k) + 2 = nI (3 * k + 2) := kadd _ 2
  rw [bx, lX12_volume_53, if_pos (show (3 : Int32) ≤ 3 by decide), e00]
  unfold fX12_cross
  simp only [f1, f2, kinB (show 3 * k < 2147483648 by omega), decide_eq_true (show 3 * k < 1680 by omega), kinB (show 3 * k + 1 < 2147483648 by omega), decide_eq_true (show 3 * k + 1 < 1680 by omega), kinB (show 3 * k + 2 < 2147483648 by omega), decide_eq_true (show 3 * k + 2 < 1680 by omega), if_true, kc (show 3 * k < 2147483648 by omega), kc (show 3 * k + 1 < 2147483648 by omega), kc (show 3 * k + 2 < 2147483648 by omega), y1', y2', y3', vI_d, kinB (show t.1 < 2147483648 by omega), kinB (show t.2.1 < 2147483648 by omega), kinB (show t.2.2 < 2147483648 by omega), decide_eq_true (show t.1 < 16 by omega), decide_eq_true (show t.2.1 < 16 by omega), decide_eq_true (show t.2.2 < 16 by omega), kc (show t.1 < 2147483648 by omega), kc (show t.2.1 < 2147483648 by omega), kc (show t.2.2 < 2147483648 by omega), Option.bind_some, vJ_d]
  generalize (((ρ.2.2.1 44 t.2.1) - (ρ.2.2.1 44 t.1)).toInt64 * ((ρ.2.2.1 45 t.2.2) - (ρ.2.2.1 45 t.1)).toInt64 - ((ρ.2.2.1 45 t.2.1) - (ρ.2.2.1 45 t.1)).toInt64 * ((ρ.2.2.1 44 t.2.2) - (ρ.2.2.1 44 t.1)).toInt64) = K at cT ⊢
  have fin := m_vol3 hv hM ag q3 hN hLv hq hl12 kd x0 y0 x1 y1 (k38 := k38) (k := k) (t := t) ⟨m1, m2, m3⟩ (bxT (wP τ) x0 y0 x1 y1 t) L.length 0 1000 v (by omega) (by omega)
  unfold jX12_volume_244
  simp only [sg_le]
  unfold vlT
  by_cases z : 0 ≤ K.toInt
  · rw [if_pos z]
    have : K = jI (tz (wP τ t.1) (wP τ t.2.1) (wP τ t.2.2)).natAbs := l_eq (by rw [ji (by omega)]; omega)
    rw [this]
    exact fin
  · rw [if_neg z]
    have : -K = jI (tz (wP τ t.1) (wP τ t.2.1) (wP τ t.2.2)).natAbs := l_eq (by rw [l_neg (by omega), ji (by omega)]; omega)
    rw [this]
    exact fin
theorem m_vol (hv : VB τ) (hM : MB σ ρ) (ag : agT σ τ) (q3 : PU τ bk E T f L) (hN : MN ρ τ bk E T f L) (hLv : ∀ c, c < 192 → levM ρ (nI c) (-1) (wn τ) (lvB τ f c)) {q : Nat} (hq : q ≤ 100) (hl12 : ρ.1 43 12 = nI q) (kd x0 y0 x1 y1 : Int32) : ∀ (r k fuel : Nat) (v : Int64), k + r = T.length → r < fuel → lX12_volume_38 fuel kd x0 y0 x1 y1 v (nI k) ρ = some (v + smL (vlT τ f (kdB τ L kd) q L.length x0 y0 x1 y1) (T.drop k), ρ) := by
  have l27 := q3.T27 hv
  intro r
  induction r with
  | zero =>
    intro k fuel v hk hfu
    obtain ⟨fu, rfl⟩ : ∃ fu, fuel = fu + 1 := ⟨fuel - 1, by omega⟩
    rw [lX12_volume_38, hN.2.1.1, if_pos ((kle (by omega) (by omega)).mpr (by omega)), List.drop_eq_nil_of_le (by omega), smL, Int64.add_zero]
  | succ r ih =>
    intro k fuel v hk hfu
    obtain ⟨fu, rfl⟩ : ∃ fu, fuel = fu + 1 := ⟨fuel - 1, by omega⟩
    obtain ⟨t, ht⟩ : ∃ t, T[k]? = some t := ⟨_, List.getElem?_eq_getElem (by omega)⟩
    rw [lX12_volume_38, hN.2.1.1, if_neg (by rw [kle (by omega) (by omega)]; omega), drop_c ht, smL, m_vol2 hv hM ag q3 hN hLv hq hl12 kd x0 y0 x1 y1 ht v, ih (k + 1) fu _ (by omega) (by omega), Int64.add_assoc]
theorem s_volume (h : Inv σ) (kd x0 y0 x1 y1 : Int32) : stepL (fL_volume kd x0 y0 x1 y1) (fX12_volume kd x0 y0 x1 y1) σ := by
  rcases fresh01 h with ⟨f0, m0⟩ | ⟨f1, m1⟩
  · refine q_noL (k := 1) h (by decide) ?_ ?_
    · unfold fL_volume fX11_volume
      rw [c_run0 f0]; rfl
    · unfold fX12_volume jX12_volume_30
      rw [m_old0 m0, Option.bind_some]
      dsimp only
      rw [if_neg (by decide)]
  · obtain ⟨τ, bk, E, T, f, L, q1, q2, q3, q4, q5⟩ := h.2.2 f1
    have r := c_run1 f1
    have l27 := q3.T27 q1
    have oo : okB (0 : Int32).toInt (7 : Int32).toInt kd = okB 0 7 kd := rfl
    obtain ⟨g1, g2⟩ := h.1.2.2.2.1.1
    have eq' := i_nI (a := σ.1 0 10) (by omega)
    have cl := i_cl (a := σ.1 0 10) (by omega)
    generalize hq : (σ.1 0 10).toNatClampNeg = q at eq' cl
    have hq100 : q ≤ 100 := by omega
    have mdl : ∀ ρ : rS, ρ.1 43 1 = 1 → fX12_volume kd x0 y0 x1 y1 ρ = (if okB 0 7 kd = true then lX12_volume_38 1000 kd x0 y0 x1 y1 0 0 (uI ρ 43 0 0) else some (0, uI (uI ρ 43 0 0) 43 0 2)) := fun ρ hρ => by
      unfold fX12_volume jX12_volume_23 jX12_volume_30
      rw [m_old1 hρ, Option.bind_some]
      dsimp only
      rw [if_pos rfl, m_from, oo, Option.bind_some]
      simp only [bI_0, Option.bind_some, m_fails1 (uI_eq ρ 43 0 0) (show ¬ (2 : Int32) ≤ 0 by decide), m_fails0 (uI_eq ρ 43 0 0), (show ¬ (1 : Int32) = 0 by decide), if_false, if_true]
      cases okB 0 7 kd <;> simp
    cases c1 : okB 0 7 kd with
    | false =>
      refine q_noL (k := 2) h (by decide) ?_ ?_
      · unfold fL_volume fX11_volume
        rw [r, Option.bind_some]
        dsimp only
        rw [c_frm0 σ (oo.trans c1)]
        rfl
      · rw [mdl σ m1, if_neg (by rw [c1]; simp)]
    | true =>
      have cv := c_vol h.1.1 q2 q1 q3 q4 hq100 eq' kd x0 y0 x1 y1 T.length 0 1000 0 (by omega) (by omega)
      rw [Int64.zero_add, List.drop_zero, show nI 0 = 0 from rfl] at cv
      obtain ⟨n1, n2, n3⟩ := aft h q5 (Kp.rf oS' σ) (smL (vlT τ f (kdB τ L kd) q L.length x0 y0 x1 y1) T)
      have h12 : (uI (uO σ 0 (smL (vlT τ f (kdB τ L kd) q L.length x0 y0 x1 y1) T)) 43 0 0).1 43 12 = nI q := by
        rw [uI_nj (by omega)]
        show σ.1 43 12 = _
        rw [h.2.1.2.2.2.1.1]
        exact eq'
      have mv := m_vol q1 n2 q2 q3 n1 (fun c hc => (lev_b h q1 q2 q3 q4 (Kp.rf oS' σ) hc).2.2 _ n1 n2 n3) hq100 h12 kd x0 y0 x1 y1 T.length 0 1000 0 (by omega) (by omega)
      rw [Int64.zero_add, List.drop_zero, show nI 0 = 0 from rfl] at mv
      refine q_okL (ω := σ) (v := smL (vlT τ f (kdB τ L kd) q L.length x0 y0 x1 y1) T) h (Fr.rf _ _) rfl ?_ ?_ (sL.rf _) (Kp.rf _ _)
      · unfold fL_volume fX11_volume
        rw [r, Option.bind_some]
        dsimp only
        rw [c_frm σ (oo.trans c1), Option.bind_some]
        dsimp only
        rw [cv, Option.bind_some]
        dsimp only
        rw [in01, if_pos rfl, vS_d, cl0]
      · rw [mdl (uO σ 0 _) m1, if_pos c1]
        exact mv
end Vol4
