/-! THE CLASS FINDS A LEVEL, all. -/
theorem plZ_pos {p : Nat → zP} {P : zP} {t : Nat × Nat × Nat} {la lb lc : Int} (h : tz (p t.1) (p t.2.1) (p t.2.2) ≠ 0) : (plZ p P t la lb lc).2 ≠ 0 := by
  unfold plZ
  dsimp only
  generalize (((tz (p t.2.1) (p t.2.2) P).natAbs : Int) * la + ((tz (p t.2.2) (p t.1) P).natAbs : Int) * lb + ((tz (p t.1) (p t.2.1) P).natAbs : Int) * lc).natAbs = W
  have A0 : 0 < (tz (p t.1) (p t.2.1) (p t.2.2)).natAbs := by omega
  generalize (tz (p t.1) (p t.2.1) (p t.2.2)).natAbs = A at A0
  have G0 : 0 < Nat.gcd W A := Nat.gcd_pos_of_pos_right _ A0
  have Gl : Nat.gcd W A ≤ A := Nat.le_of_dvd A0 (Nat.gcd_dvd_right _ _)
  have := Nat.div_pos Gl G0
  omega
section FindAll
variable {σ τ υ : rS} {T : List (Nat × Nat × Nat)}
theorem find_loop3 (hv : VB τ) (ag : agT υ τ) (hT : isTr υ (wP τ) T) (hl : T.length ≤ 27) (hm : ∀ t ∈ T, t.1 < wn τ ∧ t.2.1 < wn τ ∧ t.2.2 < wn τ ∧ tz (wP τ t.1) (wP τ t.2.1) (wP τ t.2.2) ≠ 0) {P : zP} (hP : okZ P) {n1 : Nat} {a : Int32} {Lv : Nat → Option Int} (hLv : levC υ n1 a (wn τ) Lv) (ok : okL Lv (wn τ)) {S : List (Nat × (Nat × Nat × Nat))} (hS : isAr υ (wP τ) P T S) (hSl : S.length ≤ 27) : ∀ (r k fuel : Nat) (σ : rS), k + r = S.length → r < fuel → sL υ σ → (σ.2.1 34 0).toInt = 0 → (σ.2.1 34 1).toInt = 0 → ∃ ω, lX9_find_59 fuel n1 a (nI k) σ = some ((), ω) ∧ sL υ ω ∧ Kp oS' σ ω ∧ (ω.2.1 34 0).toInt = (trI (wP τ) P Lv ((S.drop k).map (·.2))).1 ∧ (ω.2.1 34 1).toInt = (trI (wP τ) P Lv ((S.drop k).map (·.2))).2 := by
  intro r
  induction r with
  | zero =>
    intro k fuel σ hk hfu hs h0 h1
    obtain ⟨fu, rfl⟩ : ∃ fu, fuel = fu + 1 := ⟨fuel - 1, by omega⟩
    have e : σ.1 34 6 = nI S.length := by rw [hs.1]; exact hS.1
    refine ⟨σ, ?_, hs, Kp.rf _ _, ?_, ?_⟩
    · rw [lX9_find_59, e, if_pos ((kle (by omega) (by omega)).mpr (by omega))]
      rfl
    · rw [List.drop_eq_nil_of_le (by omega)]; exact h0
    · rw [List.drop_eq_nil_of_le (by omega)]; exact h1
  | succ r ih =>
    intro k fuel σ hk hfu hs h0 h1
    obtain ⟨fu, rfl⟩ : ∃ fu, fuel = fu + 1 := ⟨fuel - 1, by omega⟩
    have e : σ.1 34 6 = nI S.length := by rw [hs.1]; exact hS.1
    obtain ⟨x, hx⟩ : ∃ x, S[k]? = some x := ⟨_, List.getElem?_eq_getElem (by omega)⟩
    obtain ⟨ω, p1, p2, p3, p4⟩ := c_plane hv ag hT hl hm hP hLv ok hS hSl hs hx
    have nz := (hm _ (List.mem_of_getElem? (hS.2 k x hx).1)).2.2.2
    rw [lX9_find_59, e, if_neg (by rw [kle (by omega) (by omega)]; omega), c_hasL, h1, Option.bind_some]
    dsimp only
    rw [if_pos (show bI (!decide ((0 : Int) = 0)) = 0 from rfl), p1, Option.bind_some, vI_d, k1, drop_c hx, List.map_cons, trI]
    have go : ω = σ → ∃ ω', lX9_find_59 fu n1 a (nI (k + 1)) ω = some ((), ω') ∧ sL υ ω' ∧ Kp oS' σ ω' ∧ (ω'.2.1 34 0).toInt = (trI (wP τ) P Lv ((S.drop (k + 1)).map (·.2))).1 ∧ (ω'.2.1 34 1).toInt = (trI (wP τ) P Lv ((S.drop (k + 1)).map (·.2))).2 := fun z => by
      subst z
      exact ih (k + 1) fu ω (by omega) (by omega) hs h0 h1
    cases ha : Lv x.2.1 with
    | none => rw [ha] at p4; exact go p4
    | some la =>
      cases hb : Lv x.2.2.1 with
      | none => rw [ha, hb] at p4; exact go p4
      | some lb =>
        cases hc : Lv x.2.2.2 with
        | none => rw [ha, hb, hc] at p4; exact go p4
        | some lc =>
          rw [ha, hb, hc] at p4
          dsimp only at p4 ⊢
          have ne := plZ_pos (P := P) (la := la) (lb := lb) (lc := lc) nz
          obtain ⟨fu2, rfl⟩ : ∃ fu2, fu = fu2 + 1 := ⟨fu - 1, by omega⟩
          refine ⟨ω, ?_, p2, p3, p4.1, p4.2⟩
          have e2 : ω.1 34 6 = nI S.length := by rw [p2.1]; exact hS.1
          rw [lX9_find_59, e2]
          by_cases z : nI S.length ≤ nI (k + 1)
          · rw [if_pos z]; rfl
          · rw [if_neg z, c_hasL, p4.2, Option.bind_some, decide_eq_false ne]
            rfl
theorem c_findL (hv : VB τ) (ag : agT υ τ) (hT : isTr υ (wP τ) T) (hl : T.length ≤ 27) (hm : ∀ t ∈ T, t.1 < wn τ ∧ t.2.1 < wn τ ∧ t.2.2 < wn τ ∧ tz (wP τ t.1) (wP τ t.2.1) (wP τ t.2.2) ≠ 0) {P : zP} (hP : okZ P) {n1 : Nat} {a : Int32} {Lv : Nat → Option Int} (hLv : levC υ n1 a (wn τ) Lv) (ok : okL Lv (wn τ)) {S : List (Nat × (Nat × Nat × Nat))} (hS : isAr υ (wP τ) P T S) (hS2 : S.map (·.2) = T.filter (inT (wP τ) P)) (hO : υ.1 34 3 = oI (own (wn τ) (wP τ) P)) (hs : sL υ σ) : ∃ ω, fX9_find n1 a σ = some ((), ω) ∧ sL υ ω ∧ Kp oS' σ ω ∧ (ω.2.1 34 0).toInt = (lvP (wn τ) (wP τ) P T Lv).1 ∧ (ω.2.1 34 1).toInt = (lvP (wn τ) (wP τ) P T Lv).2 := by
  have h16 := hv.2.1
  have Sl : S.length ≤ 27 := by
    have e1 : (S.map (·.2)).length = S.length := List.length_map _
    have e2 := List.length_filter_le (inT (wP τ) P) T
    rw [← hS2, e1] at e2
    omega
  have none1 : (own (wn τ) (wP τ) P).bind Lv = none → ∃ ω, jX9_find_24 n1 a (-1000000) σ = some ((), ω) ∧ sL υ ω ∧ Kp oS' σ ω ∧ (ω.2.1 34 0).toInt = (lvP (wn τ) (wP τ) P T Lv).1 ∧ (ω.2.1 34 1).toInt = (lvP (wn τ) (wP τ) P T Lv).2 := fun hn => by
    have s2 : sL υ (uL (uL σ 34 0 0) 34 1 0) := hs.tr ((sL.up _ _ _ _).tr (sL.up _ _ _ _))
    obtain ⟨ω, u1, u2, u3, u4, u5⟩ := find_loop3 hv ag hT hl hm hP hLv ok hS Sl S.length 0 1000 (uL (uL σ 34 0 0) 34 1 0) (by omega) (by omega) s2 (by rw [uL_2, if_neg (by omega), uL_2, if_pos ⟨rfl, rfl⟩]; rfl) (by rw [uL_2, if_pos ⟨rfl, rfl⟩]; rfl)
    rw [List.drop_zero, hS2] at u4 u5
    refine ⟨ω, ?_, u2, ((Kp.uL (by omega)).tr (Kp.uL (by omega))).tr u3, ?_, ?_⟩
    · unfold jX9_find_24
      rw [if_pos rfl, vS_d, vS_d]
      exact u1
    · unfold lvP; rw [hn]; exact u4
    · unfold lvP; rw [hn]; exact u5
  unfold fX9_find
  rw [hs.1, hO]
  cases ho : own (wn τ) (wP τ) P with
  | none =>
    rw [if_pos (show oI none = -1 from rfl)]
    exact none1 (by rw [ho]; rfl)
  | some b0 =>
    have hb0 : b0 < wn τ := by
      unfold own at ho
      by_cases c : wn τ = 1
      · rw [if_pos c] at ho
        have := Option.some.inj ho
        omega
      · rw [if_neg c] at ho
        have := (ff_some ho).2.1
        omega
    have e : oI (some b0) = nI b0 := rfl
    obtain ⟨v, f1, f2⟩ := hLv σ hs b0 hb0
    rw [e, if_neg (kne1 (by omega)), f1, Option.bind_some]
    dsimp only
    have nv := lz_none ok hb0 f2
    cases hl0 : Lv b0 with
    | none =>
      have : v = -1000000 := by rw [nv]; exact hl0
      rw [this]
      exact none1 (by rw [ho]; exact hl0)
    | some z =>
      have nn : ¬ v = -1000000 := by rw [nv, hl0]; simp
      rw [hl0] at f2
      have f2 : v.toInt = z := f2
      unfold jX9_find_24
      rw [if_neg nn, vS_d, vS_d]
      refine ⟨_, rfl, hs.tr ((sL.up _ _ _ _).tr (sL.up _ _ _ _)), (Kp.uL (by omega)).tr (Kp.uL (by omega)), ?_, ?_⟩
      · rw [uL_2, if_neg (by omega), uL_2, if_pos ⟨rfl, rfl⟩, l_i, f2]
        unfold lvP
        rw [ho, Option.bind_some, hl0]
      · rw [uL_2, if_pos ⟨rfl, rfl⟩]
        unfold lvP
        rw [ho, Option.bind_some, hl0]
        rfl
end FindAll
/-! THE MODEL FINDS A LEVEL. -/
section FindM
variable {σ ρ τ υ : rS} {T : List (Nat × Nat × Nat)}
abbrev oL (n : Nat) : Prop := n = 43
/-- three turns of a place within -/
theorem tz_sum (a b c P : zP) : tz b c P + tz c a P + tz a b P = tz a b c := by unfold tz; grind
theorem in_sgn {a b c P : zP} (h : inZ a b c P = true) : (0 ≤ tz b c P ∧ 0 ≤ tz c a P ∧ 0 ≤ tz a b P ∧ 0 ≤ tz a b c) ∨ (tz b c P ≤ 0 ∧ tz c a P ≤ 0 ∧ tz a b P ≤ 0 ∧ tz a b c ≤ 0) := by
  have s := tz_sum a b c P
  have h := of_decide_eq_true h
  omega
theorem crossP {a b P : zP} {ax ay bx by' px py : Int32} (ha : zp ax ay = a) (hb : zp bx by' = b) (hp : zp px py = P) (oa : okZ a) (ob : okZ b) (op : okZ P) : ((ax - px).toInt64 * (by' - py).toInt64 - (ay - py).toInt64 * (bx - px).toInt64).toInt = tz a b P := by
  have e := crossL_i (ax := px) (ay := py) (bx := ax) (by' := ay) (px := bx) (py := by') (by rw [hp]; exact op) (by rw [ha]; exact oa) (by rw [hb]; exact ob)
  unfold crossL at e
  rw [e, ha, hb, hp]
  unfold tz
  grind
theorem m_plane (hv : VB τ) (hM : MB υ ρ) (ag : agT υ τ) (hT : isTm ρ T) (hl : T.length ≤ 27) {A B : Int32} {Lv : Nat → Option Int} (hLv : levM ρ A B (wn τ) Lv) (ok : okL Lv (wn τ)) {x y : Int32} (hP : okZ (zp x y)) (hs : sL ρ σ) {k : Nat} {t : Nat × Nat × Nat} (hk : T[k]? = some t) (hm : t.1 < wn τ ∧ t.2.1 < wn τ ∧ t.2.2 < wn τ ∧ tz (wP τ t.1) (wP τ t.2.1) (wP τ t.2.2) ≠ 0) (hin : inT (wP τ) (zp x y) t = true) {la lb lc : Int} (ha : Lv t.1 = some la) (hb : Lv t.2.1 = some lb) (hc : Lv t.2.2 = some lc) : ∃ ω, fX12_onPlane A B (nI k) x y σ = some ((), ω) ∧ sL ρ ω ∧ Kp oL σ ω ∧ (ω.2.1 43 29).toInt = (plZ (wP τ) (zp x y) t la lb lc).1 ∧ (ω.2.1 43 30).toInt = (plZ (wP τ) (zp x y) t la lb lc).2 := by
  have h16 := hv.2.1
  have kl := (List.getElem?_eq_some_iff.mp hk).1
  obtain ⟨x1, x2, x3⟩ := hT.2 k t hk
  obtain ⟨ca, cb, cc⟩ := t
  dsimp only at x1 x2 x3 hm ha hb hc
  obtain ⟨ma, mb, mc, nz⟩ := hm
  have q : ∀ j, j < wn τ → zp (σ.2.2.1 44 j) (σ.2.2.1 45 j) = wP τ j := fun j hj => by
    rw [hs.2, mq hM (by rw [ag.1]; exact hj), ag.P hj]
  have okj : ∀ j, j < wn τ → okZ (wP τ j) := fun j hj => (wP_ok hv hj).2
  obtain ⟨va, fa, ea⟩ := (hLv σ hs ca ma).2 la ha
  obtain ⟨vb, fb, eb⟩ := (hLv σ hs cb mb).2 lb hb
  obtain ⟨vc, fc, ec⟩ := (hLv σ hs cc mc).2 lc hc
  have oa := ok ca la ma ha
  have ob := ok cb lb mb hb
  have oc := ok cc lc mc hc
  have m0 : (3 : Int32) * nI k = nI (3 * k) := kmul 3 k
  have m1 : nI (3 * k) + 1 = nI (3 * k + 1) := k1 _
  have m2 : nI (3 * k) + 2 = nI (3 * k + 2) := kadd _ 2
  have y1 : σ.2.2.1 59 (3 * k) = nI ca := by rw [hs.2]; exact x1
  have y2 : σ.2.2.1 59 (3 * k + 1) = nI cb := by rw [hs.2]; exact x2
  have y3 : σ.2.2.1 59 (3 * k + 2) = nI cc := by rw [hs.2]; exact x3
  have cA := crossP (q cb mb) (q cc mc) rfl (okj cb mb) (okj cc mc) hP
  have cB := crossP (q cc mc) (q ca ma) rfl (okj cc mc) (okj ca ma) hP
  have cC := crossP (q ca ma) (q cb mb) rfl (okj ca ma) (okj cb mb) hP
  have cT := crossL_i (by rw [q ca ma]; exact okj ca ma) (by rw [q cb mb]; exact okj cb mb) (by rw [q cc mc]; exact okj cc mc)
  rw [q ca ma, q cb mb, q cc mc] at cT
  unfold crossL at cT
  unfold fX12_onPlane fX12_cross
  simp only [m0, m1, m2, kinB (show 3 * k < 2147483648 by omega), decide_eq_true (show 3 * k < 1680 by omega), kinB (show 3 * k + 1 < 2147483648 by omega), decide_eq_true (show 3 * k + 1 < 1680 by omega), kinB (show 3 * k + 2 < 2147483648 by omega), decide_eq_true (show 3 * k + 2 < 1680 by omega), if_true, kc (show 3 * k < 2147483648 by omega), kc (show 3 * k + 1 < 2147483648 by omega), kc (show 3 * k + 2 < 2147483648 by omega), y1, y2, y3, vI_d, kinB (show ca < 2147483648 by omega), kinB (show cb < 2147483648 by omega), kinB (show cc < 2147483648 by omega), decide_eq_true (show ca < 16 by omega), decide_eq_true (show cb < 16 by omega), decide_eq_true (show cc < 16 by omega), kc (show ca < 2147483648 by omega), kc (show cb < 2147483648 by omega), kc (show cc < 2147483648 by omega), Option.bind_some, vJ_d, fa, fb, fc]
  have Ba : -8000000 ≤ tz (wP τ cb) (wP τ cc) (zp x y) ∧ tz (wP τ cb) (wP τ cc) (zp x y) ≤ 8000000 := tzB (okj cb mb) (okj cc mc) hP
  have Bb : -8000000 ≤ tz (wP τ cc) (wP τ ca) (zp x y) ∧ tz (wP τ cc) (wP τ ca) (zp x y) ≤ 8000000 := tzB (okj cc mc) (okj ca ma) hP
  have Bc : -8000000 ≤ tz (wP τ ca) (wP τ cb) (zp x y) ∧ tz (wP τ ca) (wP τ cb) (zp x y) ≤ 8000000 := tzB (okj ca ma) (okj cb mb) hP
  have BT : -8000000 ≤ tz (wP τ ca) (wP τ cb) (wP τ cc) ∧ tz (wP τ ca) (wP τ cb) (wP τ cc) ≤ 8000000 := tzB (okj ca ma) (okj cb mb) (okj cc mc)
  have sg := in_sgn (a := wP τ ca) (b := wP τ cb) (c := wP τ cc) (P := zp x y) hin
  generalize (((σ.2.2.1 44 cb) - x).toInt64 * ((σ.2.2.1 45 cc) - y).toInt64 - ((σ.2.2.1 45 cb) - y).toInt64 * ((σ.2.2.1 44 cc) - x).toInt64) = KA at cA ⊢
  generalize (((σ.2.2.1 44 cc) - x).toInt64 * ((σ.2.2.1 45 ca) - y).toInt64 - ((σ.2.2.1 45 cc) - y).toInt64 * ((σ.2.2.1 44 ca) - x).toInt64) = KB at cB ⊢
  generalize (((σ.2.2.1 44 ca) - x).toInt64 * ((σ.2.2.1 45 cb) - y).toInt64 - ((σ.2.2.1 45 ca) - y).toInt64 * ((σ.2.2.1 44 cb) - x).toInt64) = KC at cC ⊢
  generalize (((σ.2.2.1 44 cb) - (σ.2.2.1 44 ca)).toInt64 * ((σ.2.2.1 45 cc) - (σ.2.2.1 45 ca)).toInt64 - ((σ.2.2.1 45 cb) - (σ.2.2.1 45 ca)).toInt64 * ((σ.2.2.1 44 cc) - (σ.2.2.1 44 ca)).toInt64) = KT at cT ⊢
  unfold plZ
  dsimp only
  generalize tz (wP τ cb) (wP τ cc) (zp x y) = a at cA Ba sg ⊢
  generalize tz (wP τ cc) (wP τ ca) (zp x y) = b at cB Bb sg ⊢
  generalize tz (wP τ ca) (wP τ cb) (zp x y) = c at cC Bc sg ⊢
  generalize tz (wP τ ca) (wP τ cb) (wP τ cc) = t at cT BT sg nz ⊢
  have pr : ∀ (v K : Int64) (z s : Int), v.toInt = z → K.toInt = s → -220000 ≤ z ∧ z ≤ 220000 → -8000000 ≤ s ∧ s ≤ 8000000 → (v * K).toInt = z * s ∧ -1760000000000 ≤ z * s ∧ z * s ≤ 1760000000000 := fun v K z s h1 h2 h3 h4 => by
    have B := mulB (a := z) (b := s) (A := 220000) (B := 8000000) (by omega) (by omega)
    refine ⟨?_, by omega, by omega⟩
    rw [l_mul, h1, h2] <;> rw [h1, h2] <;> omega
  obtain ⟨pa1, pa2, pa3⟩ := pr va KA la a ea cA oa Ba
  obtain ⟨pb1, pb2, pb3⟩ := pr vb KB lb b eb cB ob Bb
  obtain ⟨pc1, pc2, pc3⟩ := pr vc KC lc c ec cC oc Bc
  have u1 : (va * KA + vb * KB).toInt = la * a + lb * b := by
    rw [l_add, pa1, pb1] <;> (try rw [pa1, pb1]) <;> omega
  have u2 : (va * KA + vb * KB + vc * KC).toInt = la * a + lb * b + lc * c := by
    rw [l_add, u1, pc1] <;> (try rw [u1, pc1]) <;> omega
  obtain ⟨U, V, t1, t2, t3⟩ := m_tell (u := va * KA + vb * KB + vc * KC) (l := KT) (by rw [u2]; omega) (by rw [cT]; omega) (by rw [cT]; exact nz) σ
  rw [t1]
  refine ⟨_, rfl, hs.tr ((sL.up _ _ _ _).tr (sL.up _ _ _ _)), (Kp.uL (O := oL) rfl).tr (Kp.uL (O := oL) rfl), ?_, ?_⟩
  · rw [uL_2, if_neg (by omega), uL_2, if_pos ⟨rfl, rfl⟩, t2, u2, cT]
    have e : (if 0 ≤ t then la * a + lb * b + lc * c else -(la * a + lb * b + lc * c)) = (a.natAbs : Int) * la + (b.natAbs : Int) * lb + (c.natAbs : Int) * lc := by
      rcases sg with g | g
      · rw [if_pos g.2.2.2, show (a.natAbs : Int) = a by omega, show (b.natAbs : Int) = b by omega, show (c.natAbs : Int) = c by omega]
        grind
      · rw [if_neg (by omega), show (a.natAbs : Int) = -a by omega, show (b.natAbs : Int) = -b by omega, show (c.natAbs : Int) = -c by omega]
        grind
    have e2 : (la * a + lb * b + lc * c).natAbs = ((a.natAbs : Int) * la + (b.natAbs : Int) * lb + (c.natAbs : Int) * lc).natAbs := by
      rw [← e]
      split <;> omega
    rw [e, e2]
  · rw [uL_2, if_pos ⟨rfl, rfl⟩, t3, u2, cT]
    have e2 : (la * a + lb * b + lc * c).natAbs = ((a.natAbs : Int) * la + (b.natAbs : Int) * lb + (c.natAbs : Int) * lc).natAbs := by
      rcases sg with g | g
      · rw [show (a.natAbs : Int) = a by omega, show (b.natAbs : Int) = b by omega, show (c.natAbs : Int) = c by omega]
        congr 1
        grind
      · rw [show (a.natAbs : Int) = -a by omega, show (b.natAbs : Int) = -b by omega, show (c.natAbs : Int) = -c by omega]
        have : -a * la + -b * lb + -c * lc = -(la * a + lb * b + lc * c) := by grind
        rw [this, Int.natAbs_neg]
    rw [e2]
end FindM
