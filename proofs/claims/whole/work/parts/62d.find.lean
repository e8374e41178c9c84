/-! THE CLASS FINDS A LEVEL. -/
theorem ff_congr {p q : Nat → Bool} : ∀ {r k : Nat}, (∀ j, k ≤ j → j < k + r → p j = q j) → ff p r k = ff q r k
  | 0, k, _ => rfl
  | r + 1, k, h => by rw [ff, ff, h k (by omega) (by omega), ff_congr (fun j h1 h2 => h j (by omega) (by omega))]
section Find
variable {σ τ υ : rS} {T : List (Nat × Nat × Nat)}
theorem c_goTo (hv : VB τ) (ag : agT υ τ) (hB : VB υ) (hT : isTr υ (wP τ) T) (hl : T.length ≤ 27) (hm : ∀ t ∈ T, t.1 < wn τ ∧ t.2.1 < wn τ ∧ t.2.2 < wn τ) {x y : Int32} (hx : okR (-1000) 1000 x) (hy : okR (-1000) 1000 y) : ∃ ω S, fX9_goTo x y υ = some ((), ω) ∧ Kp oS' υ ω ∧ isAr ω (wP τ) (zp x y) T S ∧ S.map (·.2) = T.filter (inT (wP τ) (zp x y)) ∧ ω.1 34 3 = oI (own (wn τ) (wP τ) (zp x y)) := by
  have h16 := hv.2.1
  have k1' : Kp oS' υ (uI (uI υ 35 0 x) 35 1 y) := (Kp.uI (by omega)).tr (Kp.uI (by omega))
  have p1 : pz (uI (uI υ 35 0 x) 35 1 y) 35 = zp x y := by
    unfold pz zp
    rw [uI_nj (by omega), uI_eq, uI_eq]
  have n1 : (uI (uI υ 35 0 x) 35 1 y).1 1 1 = nI (wn τ) := by
    rw [(k1'.1 1 (by omega)).1, hB.1, ag.1]
  have n2 : (uI (uI υ 35 0 x) 35 1 y).1 1 2 = 0 := by
    rw [(k1'.1 1 (by omega)).1]
    exact hB.2.2.1
  have fin : ∀ b0 : Int32, b0 = oI (own (wn τ) (wP τ) (zp x y)) → ∃ ω S, jX9_goTo_28 b0 (uI (uI υ 35 0 x) 35 1 y) = some ((), ω) ∧ Kp oS' υ ω ∧ isAr ω (wP τ) (zp x y) T S ∧ S.map (·.2) = T.filter (inT (wP τ) (zp x y)) ∧ ω.1 34 3 = oI (own (wn τ) (wP τ) (zp x y)) := fun b0 hb0 => by
    obtain ⟨ω, S, u1, u2, u3, u4, u5, u6⟩ := goTo_loop hv ag hB hT hl hm (P := zp x y) (zp_ok hx hy) T.length 0 1000 (uI (uI (uI (uI υ 35 0 x) 35 1 y) 34 3 b0) 34 6 0) [] (by omega) (by omega) ((k1'.tr (Kp.uI (by omega))).tr (Kp.uI (by omega))) (by
      rw [← p1]
      exact pz_kp (((Kp.uI (O := fun n => n = 34) rfl).tr (Kp.uI (O := fun n => n = 34) rfl)).1 35 (by omega))) ⟨uI_eq _ _ _ _, fun k e h => (by simp at h)⟩ rfl
    refine ⟨ω, S, ?_, u2, u4, u5, ?_⟩
    · unfold jX9_goTo_28
      rw [vS_d, vS_d]
      exact u1
    · rw [u6, uI_nj (by omega), uI_eq, hb0]
  unfold fX9_goTo fX7_moveTo
  rw [if_pos (Or.inl rfl), vS_d, if_pos (Or.inl rfl), vS_d, Option.bind_some]
  dsimp only
  rw [n1]
  unfold own at fin ⊢
  by_cases c : wn τ = 1
  · rw [if_pos c] at fin ⊢
    rw [c, if_pos (show nI 1 = 1 from rfl)]
    exact fin 0 rfl
  · rw [if_neg c] at fin ⊢
    have ne : ¬ nI (wn τ) = 1 := fun z => by
      have := (keq (b := 1) (by omega) (by omega)).mp z
      exact c this
    rw [if_neg ne]
    have cn := c_numAt (σ := uI (uI υ 35 0 x) 35 1 y) (m := wn τ) (by rw [n1, n2]; exact kadd _ 0) h16 (fun k hk => by
      obtain ⟨a1, a2, _⟩ := hv.2.2.2.1 k hk
      have e := k1'.1 (80 + 4 * k + 1) (by omega)
      rw [wx_kp e, wy_kp e, (ag.2 k hk).1, (ag.2 k hk).2.1]
      exact ⟨a1, a2⟩) hx hy
    rw [cn, Option.bind_some]
    refine fin _ ?_
    dsimp only
    congr 1
    apply ff_congr
    intro j _ hj
    unfold tkB
    rw [decide_eq_decide]
    have e := k1'.1 (80 + 4 * j + 1) (by omega)
    rw [wx_kp e, wy_kp e, (ag.2 j (by omega)).1, (ag.2 j (by omega)).2.1]
    constructor
    · rintro ⟨z1, z2⟩
      show zp (wx τ j) (wy τ j) = _
      rw [z1, z2]
    · intro z
      have z : zp (wx τ j) (wy τ j) = zp x y := z
      have := Prod.mk.inj z
      exact ⟨i_eq this.1, i_eq this.2⟩
theorem c_hasL (σ : rS) : fX9_hasLevel σ = some (bI (!decide ((σ.2.1 34 1).toInt = 0)), σ) := by
  unfold fX9_hasLevel jX9_hasLevel_14
  rw [l_cmp]
  simp only [sgI_0, true_or, or_true, if_true]
  by_cases z : (σ.2.1 34 1).toInt = 0
  · rw [if_pos z, decide_eq_true z]; rfl
  · rw [if_neg z, decide_eq_false z]; rfl
theorem lz_none {n : Nat} {Lv : Nat → Option Int} (ok : okL Lv n) {b : Nat} (hb : b < n) {v : Int32} (h : v.toInt = lz (Lv b)) : (v = -1000000) = (Lv b = none) := by
  apply propext
  have e : (-1000000 : Int32).toInt = -1000000 := rfl
  rw [i_eqi, e, h]
  cases hl : Lv b with
  | none => exact ⟨fun _ => rfl, fun _ => rfl⟩
  | some z =>
    have := ok b z hb hl
    refine ⟨fun w => ?_, fun w => (by cases w)⟩
    have w : z = -1000000 := w
    omega
theorem c_plane (hv : VB τ) (ag : agT υ τ) (hT : isTr υ (wP τ) T) (hl : T.length ≤ 27) (hm : ∀ t ∈ T, t.1 < wn τ ∧ t.2.1 < wn τ ∧ t.2.2 < wn τ ∧ tz (wP τ t.1) (wP τ t.2.1) (wP τ t.2.2) ≠ 0) {P : zP} (hP : okZ P) {n1 : Nat} {a : Int32} {Lv : Nat → Option Int} (hLv : levC υ n1 a (wn τ) Lv) (ok : okL Lv (wn τ)) {S : List (Nat × (Nat × Nat × Nat))} (hS : isAr υ (wP τ) P T S) (hSl : S.length ≤ 27) {σ : rS} (hs : sL υ σ) {k : Nat} {e : Nat × (Nat × Nat × Nat)} (hk : S[k]? = some e) : ∃ ω, fX9_findOnPlane n1 a (nI k) σ = some ((), ω) ∧ sL υ ω ∧ Kp oS' σ ω ∧ (match Lv e.2.1, Lv e.2.2.1, Lv e.2.2.2 with | some la, some lb, some lc => (ω.2.1 34 0).toInt = (plZ (wP τ) P e.2 la lb lc).1 ∧ (ω.2.1 34 1).toInt = (plZ (wP τ) P e.2 la lb lc).2 | _, _, _ => ω = σ) := by
  have kl := (List.getElem?_eq_some_iff.mp hk).1
  obtain ⟨x1, x2, x3, x4, x5⟩ := hS.2 k e hk
  obtain ⟨t, ⟨ca, cb, cc⟩⟩ := e
  dsimp only at x1 x2 x3 x4 x5 ⊢
  have tl := (List.getElem?_eq_some_iff.mp x1).1
  obtain ⟨ha, hb, hc, hnz⟩ := hm _ (List.mem_of_getElem? x1)
  dsimp only at ha hb hc hnz
  have hTσ : isTr σ (wP τ) T := by
    unfold isTr
    rw [hs.1, hs.2]
    exact hT
  obtain ⟨c0, c1, c2⟩ := c_corner (j := 0) (wP τ) hTσ hl x1
  have y36 : σ.2.2.1 36 k = nI t := by rw [hs.2]; exact x2
  have y37 : ∀ i, σ.2.2.1 37 i = υ.2.2.1 37 i := fun i => by rw [hs.2]
  have y14 : σ.2.2.1 14 t = nI (tz (wP τ ca) (wP τ cb) (wP τ cc)).natAbs := (hTσ.2 t _ x1).2.2.2
  obtain ⟨va, fa, la⟩ := hLv σ hs ca ha
  obtain ⟨vb, fb, lb⟩ := hLv σ hs cb hb
  obtain ⟨vc, fc, lc⟩ := hLv σ hs cc hc
  have na := lz_none ok ha la
  have nb := lz_none ok hb lb
  have nc := lz_none ok hc lc
  have m0 : (3 : Int32) * nI k = nI (3 * k) := kmul 3 k
  have m00 : nI (3 * k) + 0 = nI (3 * k) := kadd _ 0
  have m1 : nI (3 * k) + 1 = nI (3 * k + 1) := k1 _
  have m2 : nI (3 * k) + 2 = nI (3 * k + 2) := kadd _ 2
  have i27 : inB (nI k) 27 = true := by rw [kinB (by omega)]; exact decide_eq_true (by omega)
  have t27 : inB (nI t) 27 = true := by rw [kinB (by omega)]; exact decide_eq_true (by omega)
  have z01 : (0 : Int32) + 1 = 1 := rfl
  have z12 : (1 : Int32) + 1 = 2 := rfl
  have z23 : (2 : Int32) + 1 = 3 := rfl
  have ng0 : ¬ (3 : Int32) ≤ 0 := by decide
  have ng1 : ¬ (3 : Int32) ≤ 1 := by decide
  have ng2 : ¬ (3 : Int32) ≤ 2 := by decide
  have Ba : -8000000 ≤ tz (wP τ cb) (wP τ cc) P ∧ tz (wP τ cb) (wP τ cc) P ≤ 8000000 := tzB (wP_ok hv hb).2 (wP_ok hv hc).2 hP
  have Bb : -8000000 ≤ tz (wP τ cc) (wP τ ca) P ∧ tz (wP τ cc) (wP τ ca) P ≤ 8000000 := tzB (wP_ok hv hc).2 (wP_ok hv ha).2 hP
  have Bc : -8000000 ≤ tz (wP τ ca) (wP τ cb) P ∧ tz (wP τ ca) (wP τ cb) P ≤ 8000000 := tzB (wP_ok hv ha).2 (wP_ok hv hb).2 hP
  have BA : -8000000 ≤ tz (wP τ ca) (wP τ cb) (wP τ cc) ∧ tz (wP τ ca) (wP τ cb) (wP τ cc) ≤ 8000000 := tzB (wP_ok hv ha).2 (wP_ok hv hb).2 (wP_ok hv hc).2
  unfold fX9_findOnPlane
  show ∃ ω, lX9_findOnPlane_6 (996 + 1 + 1 + 1 + 1) n1 a (nI k) 0 0 σ = _ ∧ _
  rw [lX9_findOnPlane_6, if_neg ng0, i27, if_pos rfl, kc (by omega), y36, c0, Option.bind_some]
  dsimp only
  rw [fa, Option.bind_some, vI_d]
  simp only [na]
  cases hla : Lv ca with
  | none =>
    rw [if_pos rfl]
    exact ⟨σ, rfl, hs, Kp.rf _ _, rfl⟩
  | some wa =>
    rw [hla] at la
    have la : va.toInt = wa := la
    have oa := ok ca wa ha hla
    rw [if_neg (by simp), m0, m00, kinB (by omega), decide_eq_true (show 3 * k < 81 by omega), if_pos rfl, kc (by omega), y37, x3, vJ_d, vI_d, z01]
    rw [lX9_findOnPlane_6, if_neg ng1, i27, if_pos rfl, kc (by omega), y36, c1, Option.bind_some]
    dsimp only
    rw [fb, Option.bind_some, vI_d]
    simp only [nb]
    cases hlb : Lv cb with
    | none =>
      rw [if_pos rfl]
      exact ⟨σ, rfl, hs, Kp.rf _ _, rfl⟩
    | some wb =>
      rw [hlb] at lb
      have lb : vb.toInt = wb := lb
      have ob := ok cb wb hb hlb
      rw [if_neg (by simp), m0, m1, kinB (by omega), decide_eq_true (show 3 * k + 1 < 81 by omega), if_pos rfl, kc (by omega), y37, x4, vJ_d, vI_d, z12]
      rw [lX9_findOnPlane_6, if_neg ng2, i27, if_pos rfl, kc (by omega), y36, c2, Option.bind_some]
      dsimp only
      rw [fc, Option.bind_some, vI_d]
      simp only [nc]
      cases hlc : Lv cc with
      | none =>
        rw [if_pos rfl]
        exact ⟨σ, rfl, hs, Kp.rf _ _, rfl⟩
      | some wc =>
        rw [hlc] at lc
        have lc : vc.toInt = wc := lc
        have oc := ok cc wc hc hlc
        rw [if_neg (by simp), m0, m2, kinB (by omega), decide_eq_true (show 3 * k + 2 < 81 by omega), if_pos rfl, kc (by omega), y37, x5, vJ_d, vI_d, z23]
        rw [lX9_findOnPlane_6, if_pos (by decide), i27, if_pos rfl, kc (by omega), y36, t27, if_pos rfl, kc (by omega), y14, vI_d]
        -- the numbers
        have pr : ∀ (s : Nat) (v : Int32) (z : Int), s ≤ 8000000 → v.toInt = z → -220000 ≤ z ∧ z ≤ 220000 → ((nI s).toInt64 * v.toInt64).toInt = (s : Int) * z ∧ -1760000000000 ≤ (s : Int) * z ∧ (s : Int) * z ≤ 1760000000000 := fun s v z hs hvz hz => by
          have B := mulB (a := (s : Int)) (b := z) (A := 8000000) (B := 220000) (by omega) (by omega)
          refine ⟨?_, by omega, by omega⟩
          rw [l_mul, l_i, l_i, ki (by omega), hvz] <;> rw [l_i, l_i, ki (by omega), hvz] <;> omega
        obtain ⟨pa1, pa2, pa3⟩ := pr _ va wa (show (tz (wP τ cb) (wP τ cc) P).natAbs ≤ 8000000 by omega) la oa
        obtain ⟨pb1, pb2, pb3⟩ := pr _ vb wb (show (tz (wP τ cc) (wP τ ca) P).natAbs ≤ 8000000 by omega) lb ob
        obtain ⟨pc1, pc2, pc3⟩ := pr _ vc wc (show (tz (wP τ ca) (wP τ cb) P).natAbs ≤ 8000000 by omega) lc oc
        unfold plZ
        dsimp only
        generalize ((tz (wP τ cb) (wP τ cc) P).natAbs : Int) * wa = XA at pa1 pa2 pa3 ⊢
        generalize ((tz (wP τ cc) (wP τ ca) P).natAbs : Int) * wb = XB at pb1 pb2 pb3 ⊢
        generalize ((tz (wP τ ca) (wP τ cb) P).natAbs : Int) * wc = XC at pc1 pc2 pc3 ⊢
        generalize hAr : (tz (wP τ ca) (wP τ cb) (wP τ cc)).natAbs = A
        have A0 : 0 < A := by omega
        have A8 : A ≤ 8000000 := by omega
        generalize hW : (0 : Int64) + (nI (tz (wP τ cb) (wP τ cc) P).natAbs).toInt64 * va.toInt64 + (nI (tz (wP τ cc) (wP τ ca) P).natAbs).toInt64 * vb.toInt64 + (nI (tz (wP τ ca) (wP τ cb) P).natAbs).toInt64 * vc.toInt64 = W
        have z0 : (0 : Int64).toInt = 0 := rfl
        have e1 : ((0 : Int64) + (nI (tz (wP τ cb) (wP τ cc) P).natAbs).toInt64 * va.toInt64).toInt = XA := by
          rw [l_add, z0, pa1] <;> (try rw [z0, pa1]) <;> omega
        have e2 : ((0 : Int64) + (nI (tz (wP τ cb) (wP τ cc) P).natAbs).toInt64 * va.toInt64 + (nI (tz (wP τ cc) (wP τ ca) P).natAbs).toInt64 * vb.toInt64).toInt = XA + XB := by
          rw [l_add, e1, pb1] <;> (try rw [e1, pb1]) <;> omega
        have Wi : W.toInt = XA + XB + XC := by
          rw [← hW, l_add, e2, pc1] <;> (try rw [e2, pc1]) <;> omega
        have Wa : (if 0 < W then W else -W) = jI W.toInt.natAbs := by
          have w0 : ((0 : Int64) < W) = (0 < W.toInt) := propext l_lt
          simp only [w0]
          apply l_eq
          by_cases z : 0 < W.toInt
          · rw [if_pos z, ji (by omega)]; omega
          · rw [if_neg z, l_neg (by omega), ji (by omega)]; omega
        rw [Wa, j_nI (by omega), c_gcd (by omega) (by omega), Option.bind_some, vJ_d]
        dsimp only
        rw [← Wi]
        generalize hG : Nat.gcd W.toInt.natAbs A = G
        have G0 : 0 < G := by rw [← hG]; exact Nat.gcd_pos_of_pos_right _ A0
        have Gl : G ≤ A := by rw [← hG]; exact Nat.le_of_dvd A0 (Nat.gcd_dvd_right _ _)
        have ngG : ¬ lg_cmp (jI G) 0 ≤ 0 := by
          rw [l_cmp]
          intro w
          have p : 0 < sgI (jI G).toInt := by
            have := sgI_p (jI G).toInt
            rw [this, ji (by omega)]
            omega
          rw [i_le] at w
          rw [i_lt] at p
          omega
        have neG : ¬ jI G = 0 := by rw [j_ne (by omega)]; omega
        unfold jX9_findOnPlane_123
        rw [if_neg ngG, if_pos neG, vS_d, if_pos neG, vS_d]
        refine ⟨_, rfl, hs.tr ((sL.up _ _ _ _).tr (sL.up _ _ _ _)), (Kp.uL (by omega)).tr (Kp.uL (by omega)), ?_, ?_⟩
        · rw [uL_2, if_neg (by omega), uL_2, if_pos ⟨rfl, rfl⟩, l_div (by rw [ji (by omega)]; omega), ji (by omega)]
        · rw [uL_2, if_pos ⟨rfl, rfl⟩, l_div (by rw [ji (by omega)]; omega), ji (by omega), ji (by omega), Int.tdiv_eq_ediv_of_nonneg (by omega)]
          exact (Int.natCast_ediv A G).symm
end Find
