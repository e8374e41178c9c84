/-! THE MODEL'S TRIANGLES. -/
theorem jm_lt {E : List (Nat × Nat)} {q : Nat × Nat → Bool} {m : Nat} (h : E.findIdx? q = some m) : m < E.length ∧ ∃ e, E[m]? = some e ∧ q e = true := by
  rw [List.findIdx?_eq_some_iff_getElem] at h
  obtain ⟨h1, h2, _⟩ := h
  exact ⟨h1, _, List.getElem?_eq_getElem h1, h2⟩
/-- two borings have at most one edge -/
def oneE (E : List (Nat × Nat)) : Prop := ∀ (j k : Nat) (d e : Nat × Nat), E[j]? = some d → E[k]? = some e → (∃ a b, mtB a b d = true ∧ mtB a b e = true) → j = k
theorem net_one {n : Nat} {p : Nat → zP} {E : List (Nat × Nat)} (h : netE n p E) : oneE E := by
  intro j k d e hj hk ⟨a, b, h1, h2⟩
  obtain ⟨h3, h4, _⟩ := h
  have d1 := (h4 d (List.mem_of_getElem? hj)).1
  have e1 := (h4 e (List.mem_of_getElem? hk)).1
  have h1 := of_decide_eq_true h1
  have h2 := of_decide_eq_true h2
  have : d = e := Prod.ext (by omega) (by omega)
  subst this
  have lj := (List.getElem?_eq_some_iff.mp hj).1
  exact (List.getElem?_inj lj h3).mp (hj.trans hk.symm)
theorem nb_jm {bk : Nat × Nat → Bool} {E : List (Nat × Nat)} (h : oneE E) (a b : Nat) : jnE bk E a b = match E.findIdx? (mtB a b) with | none => none | some m => (match E[m]? with | some e => if bk e = true then none else some m | none => none) := by
  unfold jnE
  cases hm : E.findIdx? (mtB a b) with
  | none =>
    dsimp only
    rw [List.findIdx?_eq_none_iff] at hm ⊢
    intro e he
    rw [hm e he]
    rfl
  | some m =>
    obtain ⟨h1, e, he, hq⟩ := jm_lt hm
    dsimp only
    rw [he]
    dsimp only
    by_cases hb : bk e = true
    · rw [if_pos hb, List.findIdx?_eq_none_iff]
      intro d hd
      cases hmd : mtB a b d with
      | false => rfl
      | true =>
        obtain ⟨j, hj⟩ := List.mem_iff_getElem?.mp hd
        have := h j m d e hj he ⟨a, b, hmd, hq⟩
        subst this
        rw [hj] at he
        obtain rfl := Option.some.inj he
        rw [hb]
        rfl
    · rw [if_neg hb, List.findIdx?_eq_some_iff_getElem]
      have hb : bk e = false := by simpa using hb
      have eg : E[m] = e := by
        rw [List.getElem?_eq_getElem h1] at he
        exact Option.some.inj he
      refine ⟨h1, ?_, fun j hj => ?_⟩
      · rw [eg, hq, hb]
        rfl
      · rw [List.findIdx?_eq_some_iff_getElem] at hm
        have := hm.2.2 j hj
        intro z
        rw [Bool.and_eq_true] at z
        exact this z.1
theorem m_nb {σ : rS} {bk : Nat × Nat → Bool} {E : List (Nat × Nat)} (hE : isN σ bk E) (h1 : oneE E) (hl : E.length ≤ 42) {a b : Nat} (ha : a < 16) (hb : b < 16) : fX12_areNeighbours (nI a) (nI b) σ = some (bI (nbE bk E a b), σ) := by
  unfold fX12_areNeighbours jX12_areNeighbours_38 jX12_areNeighbours_39
  have i3 : 16 * nI a + nI b = nI (16 * a + b) := by
    show nI 16 * nI a + nI b = _
    rw [kmul, kadd]
  rw [i3, kinB (by omega), decide_eq_true (show 16 * a + b < 256 by omega), if_pos rfl, kc (by omega), hE.2.2 a b ha hb]
  unfold nbE
  rw [nb_jm h1]
  cases hm : E.findIdx? (mtB a b) with
  | none => rfl
  | some m =>
    obtain ⟨m1, e, he, hq⟩ := jm_lt hm
    dsimp only
    rw [he]
    dsimp only
    have e1 : oI (some m) = nI m := rfl
    rw [e1, if_neg (kne1 (by omega)), if_pos rfl, kinB (by omega), decide_eq_true (show m < 120 by omega), if_pos rfl, kc (by omega), hE.2.1 m e he]
    simp only [bI_0]
    cases bk e <;> rfl
def isTm (σ : rS) (T : List (Nat × Nat × Nat)) : Prop := σ.1 43 23 = nI T.length ∧ ∀ k t, T[k]? = some t → σ.2.2.1 59 (3 * k) = nI t.1 ∧ σ.2.2.1 59 (3 * k + 1) = nI t.2.1 ∧ σ.2.2.1 59 (3 * k + 2) = nI t.2.2
theorem m_has' {τ σ : rS} (hv : VB τ) (hM : MB τ σ) {a b c : Nat} {x y : Int32} (ha : a < wn τ) (hb : b < wn τ) (hc : c < wn τ) (op : okZ (zp x y)) : fX12_hasPlace (nI a) (nI b) (nI c) x y σ = some (bI (inZ (wP τ a) (wP τ b) (wP τ c) (zp x y)), σ) := by
  have h16 := hv.2.1
  have q : ∀ k, k < wn τ → qz σ k = wP τ k := fun k hk => mq hM hk
  rw [m_has (by omega) (by omega) (by omega) (by rw [q a ha]; exact (wP_ok hv ha).2) (by rw [q b hb]; exact (wP_ok hv hb).2) (by rw [q c hc]; exact (wP_ok hv hc).2) op, q a ha, q b hb, q c hc]
theorem m_tri {τ σ : rS} (hv : VB τ) (hM : MB τ σ) {bk : Nat × Nat → Bool} {E : List (Nat × Nat)} (hE : isN σ bk E) (h1 : oneE E) (hl : E.length ≤ 42) {a b c : Nat} (ha : a < wn τ) (hb : b < wn τ) (hc : c < wn τ) : fX12_isTriangle (nI a) (nI b) (nI c) σ = some (bI (triB (wn τ) (wP τ) (nbE bk E) a b c), σ) := by
  have h16 := hv.2.1
  have loop : ∀ (r k fuel : Nat) (v : Bool), k + r = wn τ → r < fuel → lX12_isTriangle_77 fuel (nI a) (nI b) (nI c) (bI v) (nI k) σ = some (bI (v && !anyF (fun k => decide (k ≠ a ∧ k ≠ b ∧ k ≠ c) && inZ (wP τ a) (wP τ b) (wP τ c) (wP τ k)) r k), σ) := by
    intro r
    induction r with
    | zero =>
      intro k fuel v hk hfu
      obtain ⟨fu, rfl⟩ : ∃ fu, fuel = fu + 1 := ⟨fuel - 1, by omega⟩
      rw [lX12_isTriangle_77, hM.1, if_pos ((kle (by omega) (by omega)).mpr (by omega)), anyF]
      simp only [bI_01, if_true]
      cases v <;> rfl
    | succ r ih =>
      intro k fuel v hk hfu
      obtain ⟨fu, rfl⟩ : ∃ fu, fuel = fu + 1 := ⟨fuel - 1, by omega⟩
      have it := ih (k + 1) fu true (by omega) (by omega)
      have jf := ih (k + 1) fu false (by omega) (by omega)
      rw [bI_t] at it
      rw [bI_f] at jf
      have mh := m_has' hv hM ha hb hc (x := σ.2.2.1 44 k) (y := σ.2.2.1 45 k) (by rw [mq hM (show k < wn τ by omega)]; exact (wP_ok hv (show k < wn τ by omega)).2)
      rw [mq hM (show k < wn τ by omega)] at mh
      rw [lX12_isTriangle_77, hM.1, if_neg (by rw [kle (by omega) (by omega)]; omega), anyF]
      unfold jX12_isTriangle_133 jX12_isTriangle_137 jX12_isTriangle_138
      have q : ∀ x y : Nat, x < wn τ → y < wn τ → (nI x = nI y) = (x = y) := fun x y hx hy => propext (keq (by omega) (by omega))
      simp only [vI_d, k1, it, jf, q k a (by omega) ha, q k b (by omega) hb, q k c (by omega) hc, kinB (show k < 2147483648 by omega), decide_eq_true (show k < 16 by omega), if_true, kc (show k < 2147483648 by omega), mh, Option.bind_some, bI_0]
      by_cases c1 : k = a
      · rw [if_pos c1, decide_eq_false (fun z => z.1 c1)]; cases v <;> rfl
      · rw [if_neg c1]
        by_cases c2 : k = b
        · rw [if_pos c2, decide_eq_false (fun z => z.2.1 c2)]; cases v <;> rfl
        · rw [if_neg c2]
          by_cases c3 : k = c
          · rw [if_pos c3, decide_eq_false (fun z => z.2.2 c3)]; cases v <;> rfl
          · rw [if_neg c3, decide_eq_true ⟨c1, c2, c3⟩]
            cases v <;> cases inZ (wP τ a) (wP τ b) (wP τ c) (wP τ k) <;> rfl
  have l := loop (wn τ) 0 1000 true (by omega) (by omega)
  rw [show nI 0 = 0 from rfl, bI_t] at l
  have ms := m_side (σ := σ) (ax := σ.2.2.1 44 a) (ay := σ.2.2.1 45 a) (bx := σ.2.2.1 44 b) (by' := σ.2.2.1 45 b) (px := σ.2.2.1 44 c) (py := σ.2.2.1 45 c) (by rw [mq hM ha]; exact (wP_ok hv ha).2) (by rw [mq hM hb]; exact (wP_ok hv hb).2) (by rw [mq hM hc]; exact (wP_ok hv hc).2)
  rw [mq hM ha, mq hM hb, mq hM hc] at ms
  unfold fX12_isTriangle jX12_isTriangle_69
  simp only [m_nb hE h1 hl (show a < 16 by omega) (show b < 16 by omega), m_nb hE h1 hl (show a < 16 by omega) (show c < 16 by omega), m_nb hE h1 hl (show b < 16 by omega) (show c < 16 by omega), Option.bind_some, bI_0, kinB (show a < 2147483648 by omega), kinB (show b < 2147483648 by omega), kinB (show c < 2147483648 by omega), decide_eq_true (show a < 16 by omega), decide_eq_true (show b < 16 by omega), decide_eq_true (show c < 16 by omega), if_true, kc (show a < 2147483648 by omega), kc (show b < 2147483648 by omega), kc (show c < 2147483648 by omega), ms, sgI_0, l]
  unfold triB
  cases nbE bk E a b
  · rfl
  · cases nbE bk E a c
    · rfl
    · cases nbE bk E b c
      · rfl
      · by_cases z : tz (wP τ a) (wP τ b) (wP τ c) = 0
        · rw [if_pos z, decide_eq_false (fun y => y z)]; rfl
        · rw [if_neg z, decide_eq_true z]; rfl
abbrev oR (n : Nat) : Prop := n = 43 ∨ n = 59
def ctm (υ σ : rS) : Prop := Kp oR υ σ ∧ ∀ j, j ≠ 23 → σ.1 43 j = υ.1 43 j
theorem isN.mo {σ υ : rS} {bk : Nat × Nat → Bool} {E : List (Nat × Nat)} (h1 : σ.1 43 16 = υ.1 43 16) (h2 : ∀ n, 53 ≤ n → n ≤ 56 → ∀ k, σ.2.2.1 n k = υ.2.2.1 n k) (h : isN υ bk E) : isN σ bk E := by
  unfold isN arrM
  rw [h1]
  simp only [h2 53 (by omega) (by omega), h2 54 (by omega) (by omega), h2 55 (by omega) (by omega), h2 56 (by omega) (by omega)]
  exact h
theorem mtri_in {τ υ : rS} (hv : VB τ) (hM : MB τ υ) {bk : Nat × Nat → Bool} {E : List (Nat × Nat)} (hE : isN υ bk E) (h1 : oneE E) (hl : E.length ≤ 42) {k7 : Int32 → rS → Option (Unit × rS)} {k19 : Int32 → Int32 → rS → Option (Unit × rS)} {a b : Nat} (hab : a < b) : ∀ (r c fuel : Nat) (σ : rS) (T : List (Nat × Nat × Nat)), b < c → c + r = wn τ → r < fuel → ctm υ σ → isTm σ T → T.length + (tcL (triB (wn τ) (wP τ) (nbE bk E)) a b r c).length ≤ 27 → ∃ ρ, lX12_findTriangles_31 k7 k19 fuel (nI a) (nI b) (nI c) σ = k19 (nI a) (nI (b + 1)) ρ ∧ ctm υ ρ ∧ isTm ρ (T ++ tcL (triB (wn τ) (wP τ) (nbE bk E)) a b r c) := by
  have h16 := hv.2.1
  intro r
  induction r with
  | zero =>
    intro c fuel σ T hbc hc hfu hctx hT hlen
    obtain ⟨fu, rfl⟩ : ∃ fu, fuel = fu + 1 := ⟨fuel - 1, by omega⟩
    refine ⟨σ, ?_, hctx, by rw [tcL, List.append_nil]; exact hT⟩
    rw [lX12_findTriangles_31, hctx.2 2 (by omega), hM.1, if_pos ((kle (by omega) (by omega)).mpr (by omega)), vI_d, k1]
  | succ r ih =>
    intro c fuel σ T hbc hc hfu hctx hT hlen
    obtain ⟨fu, rfl⟩ : ∃ fu, fuel = fu + 1 := ⟨fuel - 1, by omega⟩
    have hMσ : MB τ σ := hM.mo (hctx.2 2 (by omega)) (fun n a b k => (hctx.1.1 n (by omega)).2.2 k)
    have hEσ : isN σ bk E := hE.mo (hctx.2 16 (by omega)) (fun n a b k => (hctx.1.1 n (by omega)).2.2 k)
    have mt := m_tri hv hMσ hEσ h1 hl (a := a) (b := b) (c := c) (by omega) (by omega) (by omega)
    rw [tcL] at hlen ⊢
    have st : ∀ ρ T2, ctm υ ρ → isTm ρ T2 → T2.length + (tcL (triB (wn τ) (wP τ) (nbE bk E)) a b r (c + 1)).length ≤ 27 → T2 ++ tcL (triB (wn τ) (wP τ) (nbE bk E)) a b r (c + 1) = T ++ ((if triB (wn τ) (wP τ) (nbE bk E) a b c = true then [(a, b, c)] else []) ++ tcL (triB (wn τ) (wP τ) (nbE bk E)) a b r (c + 1)) → ∃ ρ', jX12_findTriangles_99 k7 k19 (lX12_findTriangles_31 k7 k19 fu) (nI a) (nI b) (nI c) ρ = k19 (nI a) (nI (b + 1)) ρ' ∧ ctm υ ρ' ∧ isTm ρ' (T ++ ((if triB (wn τ) (wP τ) (nbE bk E) a b c = true then [(a, b, c)] else []) ++ tcL (triB (wn τ) (wP τ) (nbE bk E)) a b r (c + 1))) := fun ρ T2 g1 g2 g3 g4 => by
      obtain ⟨ρ', t1, t2, t3⟩ := ih (c + 1) fu ρ T2 (by omega) (by omega) (by omega) g1 g2 g3
      refine ⟨ρ', ?_, t2, by rw [← g4]; exact t3⟩
      unfold jX12_findTriangles_99
      rw [vI_d, k1, t1]
    rw [lX12_findTriangles_31, hctx.2 2 (by omega), hM.1, if_neg (by rw [kle (by omega) (by omega)]; omega), mt, Option.bind_some]
    simp only [bI_0]
    cases hq : triB (wn τ) (wP τ) (nbE bk E) a b c with
    | false =>
      rw [if_pos rfl]
      rw [hq, if_neg (by simp)] at st hlen
      exact st σ T hctx hT (by simpa using hlen) rfl
    | true =>
      rw [if_neg (by simp)]
      rw [hq, if_pos rfl] at st
      rw [hq, if_pos rfl, List.length_append] at hlen
      have l1 : [(a, b, c)].length = 1 := rfl
      have m0 : (3 : Int32) * nI T.length = nI (3 * T.length) := kmul 3 _
      have m1 : nI (3 * T.length) + 1 = nI (3 * T.length + 1) := k1 _
      have m2 : nI (3 * T.length) + 2 = nI (3 * T.length + 2) := kadd _ 2
      simp only [hT.1, vS_d, uA_1, m0, m1, m2, k1, kinB (show 3 * T.length < 2147483648 by omega), kinB (show 3 * T.length + 1 < 2147483648 by omega), kinB (show 3 * T.length + 2 < 2147483648 by omega), decide_eq_true (show 3 * T.length < 1680 by omega), decide_eq_true (show 3 * T.length + 1 < 1680 by omega), decide_eq_true (show 3 * T.length + 2 < 1680 by omega), if_true, kc (show 3 * T.length < 2147483648 by omega), kc (show 3 * T.length + 1 < 2147483648 by omega), kc (show 3 * T.length + 2 < 2147483648 by omega)]
      refine st _ (T ++ [(a, b, c)]) ⟨(((hctx.1.tr (Kp.uA (by omega))).tr (Kp.uA (by omega))).tr (Kp.uA (by omega))).tr (Kp.uI (by omega)), fun j hj => by rw [uI_nj hj]; exact hctx.2 j hj⟩ ⟨by rw [uI_eq, List.length_append]; rfl, fun k t hk => ?_⟩ (by rw [List.length_append]; omega) (by rw [List.append_assoc])
      rw [uI_2]
      rcases app_get hk with ⟨d1, d2⟩ | ⟨d1, d2⟩
      · obtain ⟨x1, x2, x3⟩ := hT.2 k t d2
        refine ⟨?_, ?_, ?_⟩
        · rw [uA_nj (by omega), uA_nj (by omega), uA_nj (by omega)]; exact x1
        · rw [uA_nj (by omega), uA_nj (by omega), uA_nj (by omega)]; exact x2
        · rw [uA_nj (by omega), uA_nj (by omega), uA_nj (by omega)]; exact x3
      · subst d1 d2
        refine ⟨?_, ?_, ?_⟩
        · rw [uA_nj (by omega), uA_nj (by omega), uA_eq]
        · rw [uA_nj (by omega), uA_eq]
        · rw [uA_eq]
theorem mtri_mid {τ υ : rS} (hv : VB τ) (hM : MB τ υ) {bk : Nat × Nat → Bool} {E : List (Nat × Nat)} (hE : isN υ bk E) (h1 : oneE E) (hl : E.length ≤ 42) {k7 : Int32 → rS → Option (Unit × rS)} {a : Nat} : ∀ (r b fuel : Nat) (σ : rS) (T : List (Nat × Nat × Nat)), a < b → b + r = wn τ → r < fuel → ctm υ σ → isTm σ T → T.length + (tbL (triB (wn τ) (wP τ) (nbE bk E)) (wn τ) a r b).length ≤ 27 → ∃ ρ, lX12_findTriangles_19 k7 fuel (nI a) (nI b) σ = k7 (nI (a + 1)) ρ ∧ ctm υ ρ ∧ isTm ρ (T ++ tbL (triB (wn τ) (wP τ) (nbE bk E)) (wn τ) a r b) := by
  have h16 := hv.2.1
  intro r
  induction r with
  | zero =>
    intro b fuel σ T hab hb hfu hctx hT hlen
    obtain ⟨fu, rfl⟩ : ∃ fu, fuel = fu + 1 := ⟨fuel - 1, by omega⟩
    refine ⟨σ, ?_, hctx, by rw [tbL, List.append_nil]; exact hT⟩
    rw [lX12_findTriangles_19, hctx.2 2 (by omega), hM.1, if_pos ((kle (by omega) (by omega)).mpr (by omega)), vI_d, k1]
  | succ r ih =>
    intro b fuel σ T hab hb hfu hctx hT hlen
    obtain ⟨fu, rfl⟩ : ∃ fu, fuel = fu + 1 := ⟨fuel - 1, by omega⟩
    rw [tbL] at hlen ⊢
    rw [List.length_append] at hlen
    obtain ⟨ρ, t1, t2, t3⟩ := mtri_in hv hM hE h1 hl (k7 := k7) (k19 := lX12_findTriangles_19 k7 fu) hab (wn τ - (b + 1)) (b + 1) 1000 σ T (by omega) (by omega) (by omega) hctx hT (by omega)
    obtain ⟨ρ2, u1, u2, u3⟩ := ih (b + 1) fu ρ _ (by omega) (by omega) (by omega) t2 t3 (by rw [List.length_append]; omega)
    refine ⟨ρ2, ?_, u2, by rw [← List.append_assoc]; exact u3⟩
    rw [lX12_findTriangles_19, hctx.2 2 (by omega), hM.1, if_neg (by rw [kle (by omega) (by omega)]; omega), vI_d, k1, t1, u1]
theorem mtri_out {τ υ : rS} (hv : VB τ) (hM : MB τ υ) {bk : Nat × Nat → Bool} {E : List (Nat × Nat)} (hE : isN υ bk E) (h1 : oneE E) (hl : E.length ≤ 42) : ∀ (r a fuel : Nat) (σ : rS) (T : List (Nat × Nat × Nat)), a + r = wn τ → r < fuel → ctm υ σ → isTm σ T → T.length + (taL (triB (wn τ) (wP τ) (nbE bk E)) (wn τ) r a).length ≤ 27 → ∃ ρ, lX12_findTriangles_7 fuel (nI a) σ = some ((), ρ) ∧ ctm υ ρ ∧ isTm ρ (T ++ taL (triB (wn τ) (wP τ) (nbE bk E)) (wn τ) r a) := by
  have h16 := hv.2.1
  intro r
  induction r with
  | zero =>
    intro a fuel σ T ha hfu hctx hT hlen
    obtain ⟨fu, rfl⟩ : ∃ fu, fuel = fu + 1 := ⟨fuel - 1, by omega⟩
    refine ⟨σ, ?_, hctx, by rw [taL, List.append_nil]; exact hT⟩
    rw [lX12_findTriangles_7, hctx.2 2 (by omega), hM.1, if_pos ((kle (by omega) (by omega)).mpr (by omega))]
  | succ r ih =>
    intro a fuel σ T ha hfu hctx hT hlen
    obtain ⟨fu, rfl⟩ : ∃ fu, fuel = fu + 1 := ⟨fuel - 1, by omega⟩
    rw [taL] at hlen ⊢
    rw [List.length_append] at hlen
    obtain ⟨ρ, t1, t2, t3⟩ := mtri_mid hv hM hE h1 hl (k7 := lX12_findTriangles_7 fu) (a := a) (wn τ - (a + 1)) (a + 1) 1000 σ T (by omega) (by omega) (by omega) hctx hT (by omega)
    obtain ⟨ρ2, u1, u2, u3⟩ := ih (a + 1) fu ρ _ (by omega) (by omega) t2 t3 (by rw [List.length_append]; omega)
    refine ⟨ρ2, ?_, u2, by rw [← List.append_assoc]; exact u3⟩
    rw [lX12_findTriangles_7, hctx.2 2 (by omega), hM.1, if_neg (by rw [kle (by omega) (by omega)]; omega), vI_d, k1, t1, u1]
theorem m_tris {τ υ : rS} (hv : VB τ) (hM : MB τ υ) {bk : Nat × Nat → Bool} {E : List (Nat × Nat)} (hE : isN υ bk E) (net : netE (wn τ) (wP τ) E) : ∃ ρ, fX12_findTriangles υ = some ((), ρ) ∧ ctm υ ρ ∧ isTm ρ (TL (wn τ) (wP τ) (nbE bk E)) := by
  have h16 := hv.2.1
  have len := tri_len (bk := bk) hv.sound net
  have len2 := net_len hv.sound.1 hv.sound.2.1 hv.sound.2.2 net
  obtain ⟨ρ, t1, t2, t3⟩ := mtri_out hv hM hE (net_one net) len2 (wn τ) 0 1000 (uI υ 43 23 0) [] (by omega) (by omega) ⟨Kp.uI (by omega), fun j hj => uI_nj hj⟩ ⟨uI_eq _ _ _ _, fun k t h => (by simp at h)⟩ (by show 0 + _ ≤ 27; rw [Nat.zero_add]; exact len)
  refine ⟨ρ, ?_, t2, t3⟩
  unfold fX12_findTriangles
  rw [vS_d]
  exact t1
