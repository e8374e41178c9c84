/-! THE MODEL FINDS A LEVEL, loops. -/
section FindN
variable {σ ρ τ υ : rS} {T : List (Nat × Nat × Nat)}
theorem m_tell1 {u : Int64} {z : Int} (hu : u.toInt = z) (hz : -220000 ≤ z ∧ z ≤ 220000) (σ : rS) : ∃ U V : Int64, fX12_tell u 1 σ = some ((), uL (uL σ 43 29 U) 43 30 V) ∧ U.toInt = z ∧ V.toInt = 1 := by
  have e1 : (1 : Int64).toInt = 1 := rfl
  obtain ⟨U, V, t1, t2, t3⟩ := m_tell (u := u) (l := 1) (by omega) (by rw [e1]; decide) (by rw [e1]; decide) σ
  refine ⟨U, V, t1, ?_, ?_⟩
  · rw [t2, e1, if_pos (by omega), hu]
    have : Nat.gcd z.natAbs (1 : Int).natAbs = 1 := Nat.gcd_one_right _
    rw [this]
    exact Int.tdiv_one z
  · rw [t3, e1, hu]
    have : Nat.gcd z.natAbs (1 : Int).natAbs = 1 := Nat.gcd_one_right _
    rw [this]
    rfl
theorem l30 {σ : rS} : (lg_cmp (σ.2.1 43 30) 0 = 0) = ((σ.2.1 43 30).toInt = 0) := by rw [l_cmp, sgI_0]
theorem mfind_T (hv : VB τ) (hM : MB υ ρ) (ag : agT υ τ) (hT : isTm ρ T) (hl : T.length ≤ 27) (hm : ∀ t ∈ T, t.1 < wn τ ∧ t.2.1 < wn τ ∧ t.2.2 < wn τ ∧ tz (wP τ t.1) (wP τ t.2.1) (wP τ t.2.2) ≠ 0) {A B : Int32} {Lv : Nat → Option Int} (hLv : levM ρ A B (wn τ) Lv) (ok : okL Lv (wn τ)) {x y : Int32} (hP : okZ (zp x y)) : ∀ (r k fuel : Nat) (σ : rS), k + r = T.length → r < fuel → sL ρ σ → (σ.2.1 43 29).toInt = 0 → (σ.2.1 43 30).toInt = 0 → ∃ ω, lX12_findLevel_117 fuel A B x y (nI k) σ = some ((), ω) ∧ sL ρ ω ∧ Kp oL σ ω ∧ (ω.2.1 43 29).toInt = (trI (wP τ) (zp x y) Lv ((T.drop k).filter (inT (wP τ) (zp x y)))).1 ∧ (ω.2.1 43 30).toInt = (trI (wP τ) (zp x y) Lv ((T.drop k).filter (inT (wP τ) (zp x y)))).2 := by
  have h16 := hv.2.1
  intro r
  induction r with
  | zero =>
    intro k fuel σ hk hfu hs h0 h1
    obtain ⟨fu, rfl⟩ : ∃ fu, fuel = fu + 1 := ⟨fuel - 1, by omega⟩
    have e : σ.1 43 23 = nI T.length := by rw [hs.1]; exact hT.1
    refine ⟨σ, ?_, hs, Kp.rf _ _, ?_, ?_⟩
    · rw [lX12_findLevel_117, e, if_pos ((kle (by omega) (by omega)).mpr (by omega))]
      rfl
    · rw [List.drop_eq_nil_of_le (by omega)]; exact h0
    · rw [List.drop_eq_nil_of_le (by omega)]; exact h1
  | succ r ih =>
    intro k fuel σ hk hfu hs h0 h1
    obtain ⟨fu, rfl⟩ : ∃ fu, fuel = fu + 1 := ⟨fuel - 1, by omega⟩
    have e : σ.1 43 23 = nI T.length := by rw [hs.1]; exact hT.1
    obtain ⟨⟨ca, cb, cc⟩, ht⟩ : ∃ t, T[k]? = some t := ⟨_, List.getElem?_eq_getElem (by omega)⟩
    obtain ⟨x1, x2, x3⟩ := hT.2 k _ ht
    have hmt := hm _ (List.mem_of_getElem? ht)
    obtain ⟨ma, mb, mc, nz⟩ := hmt
    dsimp only at x1 x2 x3 ma mb mc nz
    have m0 : (3 : Int32) * nI k = nI (3 * k) := kmul 3 k
    have m1 : nI (3 * k) + 1 = nI (3 * k + 1) := k1 _
    have m2 : nI (3 * k) + 2 = nI (3 * k + 2) := kadd _ 2
    have y1 : σ.2.2.1 59 (3 * k) = nI ca := by rw [hs.2]; exact x1
    have y2 : σ.2.2.1 59 (3 * k + 1) = nI cb := by rw [hs.2]; exact x2
    have y3 : σ.2.2.1 59 (3 * k + 2) = nI cc := by rw [hs.2]; exact x3
    have hMσ : MB υ σ := MB.mo (υ := ρ) (by rw [hs.1]) (fun n _ _ j => by rw [hs.2]) hM
    have wnu : ∀ j, j < wn τ → j < wn υ := fun j hj => by rw [ag.1]; exact hj
    have q : ∀ j, j < wn τ → qz σ j = wP τ j := fun j hj => by
      have := mq hMσ (wnu j hj)
      unfold qz
      rw [this, ag.P hj]
    have mh := m_has (a := ca) (b := cb) (c := cc) (x := x) (y := y) (σ := σ) (by omega) (by omega) (by omega) (by rw [q ca ma]; exact (wP_ok hv ma).2) (by rw [q cb mb]; exact (wP_ok hv mb).2) (by rw [q cc mc]; exact (wP_ok hv mc).2) hP
    rw [q ca ma, q cb mb, q cc mc] at mh
    have ha := (hLv σ hs ca ma).1
    have hb := (hLv σ hs cb mb).1
    have hc := (hLv σ hs cc mc).1
    have itn : inT (wP τ) (zp x y) (ca, cb, cc) = inZ (wP τ ca) (wP τ cb) (wP τ cc) (zp x y) := rfl
    rw [drop_c ht, List.filter_cons, itn]
    rw [lX12_findLevel_117, e, if_neg (by rw [kle (by omega) (by omega)]; omega)]
    simp only [l30]
    rw [if_pos h1, m0, m1, m2]
    simp only [kinB (show 3 * k < 2147483648 by omega), decide_eq_true (show 3 * k < 1680 by omega), kinB (show 3 * k + 1 < 2147483648 by omega), decide_eq_true (show 3 * k + 1 < 1680 by omega), kinB (show 3 * k + 2 < 2147483648 by omega), decide_eq_true (show 3 * k + 2 < 1680 by omega), if_true, kc (show 3 * k < 2147483648 by omega), kc (show 3 * k + 1 < 2147483648 by omega), kc (show 3 * k + 2 < 2147483648 by omega), y1, y2, y3, vI_d, mh, Option.bind_some, bI_0, ha, hb, hc]
    unfold jX12_findLevel_232
    simp only [vI_d, k1]
    have go := ih (k + 1) fu σ (by omega) (by omega) hs h0 h1
    cases hin : inZ (wP τ ca) (wP τ cb) (wP τ cc) (zp x y) with
    | false =>
      rw [if_pos rfl, if_neg (by simp)]
      exact go
    | true =>
      rw [if_neg (by simp), if_pos rfl, trI]
      cases hla : Lv ca with
      | none => rw [if_pos (show (none : Option Int).isSome = false from rfl)]; exact go
      | some la =>
        rw [if_neg (by simp)]
        cases hlb : Lv cb with
        | none => rw [if_pos (show (none : Option Int).isSome = false from rfl)]; exact go
        | some lb =>
          rw [if_neg (by simp)]
          cases hlc : Lv cc with
          | none => rw [if_pos (show (none : Option Int).isSome = false from rfl)]; exact go
          | some lc =>
            rw [if_neg (by simp)]
            obtain ⟨ω, p1, p2, p3, p4, p5⟩ := m_plane hv hM ag hT hl hLv ok hP hs ht ⟨ma, mb, mc, nz⟩ (itn.trans hin) hla hlb hlc
            rw [p1, Option.bind_some]
            dsimp only
            have ne := plZ_pos (p := wP τ) (P := zp x y) (t := (ca, cb, cc)) (la := la) (lb := lb) (lc := lc) nz
            obtain ⟨fu2, rfl⟩ : ∃ fu2, fu = fu2 + 1 := ⟨fu - 1, by omega⟩
            refine ⟨ω, ?_, p2, p3, p4, p5⟩
            have e2 : ω.1 43 23 = nI T.length := by rw [p2.1]; exact hT.1
            rw [lX12_findLevel_117, e2]
            by_cases z : nI T.length ≤ nI (k + 1)
            · rw [if_pos z]; rfl
            · rw [if_neg z]
              simp only [l30]
              rw [if_neg (by rw [p5]; exact ne)]
              rfl
theorem mfind_T1 {T : List (Nat × Nat × Nat)} (hT : isTm ρ T) (hl : T.length ≤ 27) {A B x y : Int32} {σ : rS} (hs : sL ρ σ) (h1 : (σ.2.1 43 30).toInt ≠ 0) : jX12_findLevel_114 A B x y σ = some ((), σ) := by
  unfold jX12_findLevel_114
  show lX12_findLevel_117 (999 + 1) _ _ _ _ _ _ = _
  have e : σ.1 43 23 = nI T.length := by rw [hs.1]; exact hT.1
  rw [lX12_findLevel_117, e]
  by_cases z : nI T.length ≤ 0
  · rw [if_pos z]; rfl
  · rw [if_neg z]
    simp only [l30]
    rw [if_neg h1]
    rfl
theorem mfind_B (hv : VB τ) (hM : MB υ ρ) (ag : agT υ τ) (hT : isTm ρ T) (hl : T.length ≤ 27) (hm : ∀ t ∈ T, t.1 < wn τ ∧ t.2.1 < wn τ ∧ t.2.2 < wn τ ∧ tz (wP τ t.1) (wP τ t.2.1) (wP τ t.2.2) ≠ 0) {A B : Int32} {Lv : Nat → Option Int} (hLv : levM ρ A B (wn τ) Lv) (ok : okL Lv (wn τ)) {x y : Int32} (hP : okZ (zp x y)) : ∀ (r k fuel : Nat) (σ : rS), k + r = wn τ → r < fuel → sL ρ σ → (σ.2.1 43 29).toInt = 0 → (σ.2.1 43 30).toInt = 0 → ∃ ω, lX12_findLevel_43 fuel A B x y (nI k) σ = some ((), ω) ∧ sL ρ ω ∧ Kp oL σ ω ∧ (match (ff (fun k => decide (wP τ k = zp x y)) r k).bind Lv with | some z => (ω.2.1 43 29).toInt = z ∧ (ω.2.1 43 30).toInt = 1 | none => (ω.2.1 43 29).toInt = (trI (wP τ) (zp x y) Lv (T.filter (inT (wP τ) (zp x y)))).1 ∧ (ω.2.1 43 30).toInt = (trI (wP τ) (zp x y) Lv (T.filter (inT (wP τ) (zp x y)))).2) := by
  have h16 := hv.2.1
  have tail : ∀ σ, sL ρ σ → (σ.2.1 43 29).toInt = 0 → (σ.2.1 43 30).toInt = 0 → ∃ ω, jX12_findLevel_114 A B x y σ = some ((), ω) ∧ sL ρ ω ∧ Kp oL σ ω ∧ (ω.2.1 43 29).toInt = (trI (wP τ) (zp x y) Lv (T.filter (inT (wP τ) (zp x y)))).1 ∧ (ω.2.1 43 30).toInt = (trI (wP τ) (zp x y) Lv (T.filter (inT (wP τ) (zp x y)))).2 := fun σ hs h0 h1 => by
    obtain ⟨ω, u1, u2, u3, u4, u5⟩ := mfind_T hv hM ag hT hl hm hLv ok hP T.length 0 1000 σ (by omega) (by omega) hs h0 h1
    exact ⟨ω, u1, u2, u3, u4, u5⟩
  intro r
  induction r with
  | zero =>
    intro k fuel σ hk hfu hs h0 h1
    obtain ⟨fu, rfl⟩ : ∃ fu, fuel = fu + 1 := ⟨fuel - 1, by omega⟩
    have e : σ.1 43 2 = nI (wn τ) := by rw [hs.1, hM.1, ag.1]
    obtain ⟨ω, u1, u2, u3, u4⟩ := tail σ hs h0 h1
    refine ⟨ω, ?_, u2, u3, u4⟩
    rw [lX12_findLevel_43, e, if_pos ((kle (by omega) (by omega)).mpr (by omega))]
    exact u1
  | succ r ih =>
    intro k fuel σ hk hfu hs h0 h1
    obtain ⟨fu, rfl⟩ : ∃ fu, fuel = fu + 1 := ⟨fuel - 1, by omega⟩
    have e : σ.1 43 2 = nI (wn τ) := by rw [hs.1, hM.1, ag.1]
    have hkn : k < wn τ := by omega
    have z44 : σ.2.2.1 44 k = wx τ k := by
      obtain ⟨a, _⟩ := hM.2 k (by rw [ag.1]; exact hkn)
      rw [hs.2, a, (ag.2 k hkn).1]
    have z45 : σ.2.2.1 45 k = wy τ k := by
      obtain ⟨_, a, _⟩ := hM.2 k (by rw [ag.1]; exact hkn)
      rw [hs.2, a, (ag.2 k hkn).2.1]
    have eqP : (wP τ k = zp x y) = (wx τ k = x ∧ wy τ k = y) := by
      apply propext
      constructor
      · intro z
        have z : zp (wx τ k) (wy τ k) = zp x y := z
        have := Prod.mk.inj z
        exact ⟨i_eq this.1, i_eq this.2⟩
      · rintro ⟨z1, z2⟩
        show zp (wx τ k) (wy τ k) = _
        rw [z1, z2]
    have go := ih (k + 1) fu σ (by omega) (by omega) hs h0 h1
    obtain ⟨hh, hlv⟩ := hLv σ hs k hkn
    rw [lX12_findLevel_43, e, if_neg (by rw [kle (by omega) (by omega)]; omega)]
    simp only [l30]
    rw [if_pos h1, kinB (by omega), decide_eq_true (show k < 16 by omega), if_pos rfl, kc (by omega), z44, z45, hh, ff]
    unfold jX12_findLevel_108
    simp only [Option.bind_some, bI_0, vI_d, k1, if_true, decide_eq_true_eq, eqP]
    by_cases c1 : wx τ k = x
    · by_cases c2 : wy τ k = y
      · rw [if_pos c1, if_pos c2, if_pos (show wx τ k = x ∧ wy τ k = y from ⟨c1, c2⟩), Option.bind_some]
        cases hl0 : Lv k with
        | none =>
          -- another boring at this place? no: places differ
          rw [if_pos (show (none : Option Int).isSome = false from rfl)]
          obtain ⟨ω, u1, u2, u3, u4⟩ := go
          have nf : ff (fun k => decide (wP τ k = zp x y)) r (k + 1) = none := ff_none.mpr (fun j g1 g2 => decide_eq_false (fun z => by
            have e2 : wP τ k = zp x y := by rw [eqP]; exact ⟨c1, c2⟩
            have := hv.sound.2.2 k j hkn (by omega) (e2.trans z.symm)
            omega))
          rw [nf] at u4
          exact ⟨ω, u1, u2, u3, u4⟩
        | some z =>
          rw [if_neg (by simp)]
          obtain ⟨v, v1, v2⟩ := hlv z hl0
          obtain ⟨U, V, t1, t2, t3⟩ := m_tell1 v2 (ok k z hkn hl0) σ
          rw [v1, Option.bind_some]
          dsimp only
          rw [t1, Option.bind_some]
          dsimp only
          have s2 : sL ρ (uL (uL σ 43 29 U) 43 30 V) := hs.tr ((sL.up _ _ _ _).tr (sL.up _ _ _ _))
          have e30 : ((uL (uL σ 43 29 U) 43 30 V).2.1 43 30).toInt = 1 := by rw [uL_2, if_pos ⟨rfl, rfl⟩, t3]
          have e29 : ((uL (uL σ 43 29 U) 43 30 V).2.1 43 29).toInt = z := by rw [uL_2, if_neg (by omega), uL_2, if_pos ⟨rfl, rfl⟩, t2]
          refine ⟨_, ?_, s2, (Kp.uL (O := oL) rfl).tr (Kp.uL (O := oL) rfl), e29, e30⟩
          obtain ⟨fu2, rfl⟩ : ∃ fu2, fu = fu2 + 1 := ⟨fu - 1, by omega⟩
          have j114 := mfind_T1 hT hl (A := A) (B := B) (x := x) (y := y) s2 (by rw [e30]; decide)
          rw [lX12_findLevel_43]
          have e2 : (uL (uL σ 43 29 U) 43 30 V).1 43 2 = nI (wn τ) := e
          rw [e2]
          by_cases w : nI (wn τ) ≤ nI (k + 1)
          · rw [if_pos w]; exact j114
          · rw [if_neg w]
            simp only [l30]
            rw [if_neg (by rw [e30]; decide)]
            exact j114
      · rw [if_pos c1, if_neg c2, if_neg (show ¬ (wx τ k = x ∧ wy τ k = y) from fun w => c2 w.2)]
        exact go
    · rw [if_neg c1, if_neg (show ¬ (wx τ k = x ∧ wy τ k = y) from fun w => c1 w.1)]
      exact go
theorem m_findL (hv : VB τ) (hM : MB υ ρ) (ag : agT υ τ) (hT : isTm ρ T) (hl : T.length ≤ 27) (hm : ∀ t ∈ T, t.1 < wn τ ∧ t.2.1 < wn τ ∧ t.2.2 < wn τ ∧ tz (wP τ t.1) (wP τ t.2.1) (wP τ t.2.2) ≠ 0) {A B : Int32} {Lv : Nat → Option Int} (hLv : levM ρ A B (wn τ) Lv) (ok : okL Lv (wn τ)) {x y : Int32} (hP : okZ (zp x y)) {σ : rS} (hs : sL ρ σ) : ∃ ω, fX12_findLevel A B x y σ = some ((), ω) ∧ sL ρ ω ∧ Kp oL σ ω ∧ (ω.2.1 43 29).toInt = (lvP (wn τ) (wP τ) (zp x y) T Lv).1 ∧ (ω.2.1 43 30).toInt = (lvP (wn τ) (wP τ) (zp x y) T Lv).2 := by
  have h16 := hv.2.1
  have s0 : sL ρ (uL (uL σ 43 29 0) 43 30 0) := hs.tr ((sL.up _ _ _ _).tr (sL.up _ _ _ _))
  have e29 : ((uL (uL σ 43 29 0) 43 30 0).2.1 43 29).toInt = 0 := by rw [uL_2, if_neg (by omega), uL_2, if_pos ⟨rfl, rfl⟩]; rfl
  have e30 : ((uL (uL σ 43 29 0) 43 30 0).2.1 43 30).toInt = 0 := by rw [uL_2, if_pos ⟨rfl, rfl⟩]; rfl
  have kk : Kp oL σ (uL (uL σ 43 29 0) 43 30 0) := (Kp.uL (O := oL) rfl).tr (Kp.uL (O := oL) rfl)
  have e2 : (uL (uL σ 43 29 0) 43 30 0).1 43 2 = nI (wn τ) := by
    show σ.1 43 2 = _
    rw [hs.1, hM.1, ag.1]
  obtain ⟨ω, u1, u2, u3, u4⟩ := mfind_B hv hM ag hT hl hm hLv ok hP (wn τ) 0 1000 _ (by omega) (by omega) s0 e29 e30
  unfold fX12_findLevel
  rw [vS_d, vS_d, e2]
  unfold lvP own jX12_findLevel_40
  by_cases c : wn τ = 1
  · rw [c, if_pos (show nI 1 = 1 from rfl), if_pos rfl, Option.bind_some]
    obtain ⟨hh, hlv⟩ := hLv _ s0 0 (by omega)
    rw [show nI 0 = 0 from rfl] at hh hlv
    rw [hh, Option.bind_some]
    simp only [bI_0]
    cases hl0 : Lv 0 with
    | none =>
      rw [if_pos (show (none : Option Int).isSome = false from rfl)]
      have nn : (ff (fun k => decide (wP τ k = zp x y)) (wn τ) 0).bind Lv = none := by
        cases hf : ff (fun k => decide (wP τ k = zp x y)) (wn τ) 0 with
        | none => rfl
        | some j =>
          have := (ff_some hf).2.1
          have : j = 0 := by omega
          rw [this, Option.bind_some, hl0]
      rw [nn] at u4
      exact ⟨ω, u1, u2, kk.tr u3, u4.1, u4.2⟩
    | some z =>
      rw [if_neg (by simp)]
      obtain ⟨v, v1, v2⟩ := hlv z hl0
      obtain ⟨U, V, t1, t2, t3⟩ := m_tell1 v2 (ok 0 z (by omega) hl0) (uL (uL σ 43 29 0) 43 30 0)
      rw [v1, Option.bind_some]
      dsimp only
      rw [t1, Option.bind_some]
      dsimp only
      have s2 : sL ρ (uL (uL (uL (uL σ 43 29 0) 43 30 0) 43 29 U) 43 30 V) := s0.tr ((sL.up _ _ _ _).tr (sL.up _ _ _ _))
      have f30 : ((uL (uL (uL (uL σ 43 29 0) 43 30 0) 43 29 U) 43 30 V).2.1 43 30).toInt = 1 := by rw [uL_2, if_pos ⟨rfl, rfl⟩, t3]
      have f29 : ((uL (uL (uL (uL σ 43 29 0) 43 30 0) 43 29 U) 43 30 V).2.1 43 29).toInt = z := by rw [uL_2, if_neg (by omega), uL_2, if_pos ⟨rfl, rfl⟩, t2]
      refine ⟨_, ?_, s2, kk.tr ((Kp.uL (O := oL) rfl).tr (Kp.uL (O := oL) rfl)), f29, f30⟩
      have j114 := mfind_T1 hT hl (A := A) (B := B) (x := x) (y := y) s2 (by rw [f30]; decide)
      show lX12_findLevel_43 (999 + 1) _ _ _ _ _ _ = _
      rw [lX12_findLevel_43]
      have e3 : (uL (uL (uL (uL σ 43 29 0) 43 30 0) 43 29 U) 43 30 V).1 43 2 = nI (wn τ) := e2
      rw [e3]
      by_cases w : nI (wn τ) ≤ 0
      · rw [if_pos w]; exact j114
      · rw [if_neg w]
        simp only [l30]
        rw [if_neg (by rw [f30]; decide)]
        exact j114
  · have ne : ¬ nI (wn τ) = 1 := fun z => c ((keq (b := 1) (by omega) (by omega)).mp z)
    rw [if_neg ne, if_neg c]
    refine ⟨ω, u1, u2, kk.tr u3, ?_⟩
    cases hf : (ff (fun k => decide (wP τ k = zp x y)) (wn τ) 0).bind Lv with
    | none => rw [hf] at u4; exact u4
    | some z => rw [hf] at u4; exact u4
end FindN
