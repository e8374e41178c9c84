/-! sum, match, bedOf. -/
section Ask3
variable {σ ρ τ : rS} {bk : Nat × Nat → Bool} {E : List (Nat × Nat)} {T : List (Nat × Nat × Nat)} {f : Nat → Option Nat} {L : List Nat}
theorem c_nbr (hj : ∀ a b, a < 16 → b < 16 → σ.2.2.1 16 (a * 16 + b) = oI (jnE bk E a b)) (hl : E.length ≤ 42) {a b : Nat} (ha : a < 16) (hb : b < 16) : fX11_requireNeighbours (nI a) (nI b) σ = some (if nbE bk E a b = true then .ok () else .error "java/lang/IllegalArgumentException", σ) := by
  unfold fX11_requireNeighbours
  rw [c_join hj ha hb, Option.bind_some]
  have os : (oI (jnE bk E a b) = (-1)) = (nbE bk E a b = false) := oI_s (fun m hm => by have := jn_lt hm; omega)
  simp only [os]
  cases nbE bk E a b <;> rfl
/-- the edge of two neighbours, in both halves -/
theorem nb_k (h1 : oneE E) {a b : Nat} (hn : nbE bk E a b = true) : ∃ k e, jnE bk E a b = some k ∧ E.findIdx? (mtB a b) = some k ∧ E[k]? = some e ∧ bk e = false ∧ ((e.1 = a ∧ e.2 = b) ∨ (e.1 = b ∧ e.2 = a)) := by
  have e0 := nb_jm (bk := bk) h1 a b
  unfold nbE at hn
  cases hm : E.findIdx? (mtB a b) with
  | none =>
    rw [hm] at e0
    rw [e0] at hn
    cases hn
  | some k =>
    obtain ⟨_, e, he, hq⟩ := jm_lt hm
    rw [hm] at e0
    dsimp only at e0
    rw [he] at e0
    dsimp only at e0
    by_cases hb : bk e = true
    · rw [if_pos hb] at e0
      rw [e0] at hn
      cases hn
    · rw [if_neg hb] at e0
      exact ⟨k, e, e0, rfl, he, by simpa using hb, of_decide_eq_true hq⟩
theorem m_matched (hv : VB τ) (hM : MB σ ρ) (ag : agT σ τ) (net : netE (wn τ) (wP τ) E) (hl : E.length ≤ 42) (hN : isN ρ bk E) (hm : matM ρ τ bk E E.length) {a b l : Nat} (ha : a < wn τ) (hb : b < wn τ) (hla : l < wl τ a) (hn : nbE bk E a b = true) : fX12_matched (nI a) (nI b) (nI l) ρ = some (oI (ptN τ (nbE bk E) a b l), ρ) := by
  have h16 := hv.2.1
  have la := (l_ok hv ha).2
  have lb := (l_ok hv hb).2
  obtain ⟨k, e, k1', k2, he, hbk, hab⟩ := nb_k (net_one net) hn
  have kl := (List.getElem?_eq_some_iff.mp he).1
  have lt := (net.2.1 e (List.mem_of_getElem? he)).1
  have i3 : 16 * nI a + nI b = nI (16 * a + b) := by
    show nI 16 * nI a + nI b = _
    rw [kmul, kadd]
  have x56 : ρ.2.2.1 56 (16 * a + b) = nI k := by rw [hN.2.2 a b (by omega) (by omega), k2]; rfl
  obtain ⟨_, mm⟩ := hm k e kl he hbk
  unfold fX12_matched ptN
  rw [i3, kinB (by omega), decide_eq_true (show 16 * a + b < 256 by omega), if_pos rfl, kc (by omega), x56, vI_d, if_pos hn]
  have q : (nI b ≤ nI a) = (b ≤ a) := propext (kle (by omega) (by omega))
  have e12 : ∀ i : Nat, (12 : Int32) * nI k + nI i = nI (12 * k + i) := fun i => by
    show nI 12 * nI k + nI i = _
    rw [kmul, kadd]
  by_cases c : a < b
  · have y1 : e.1 = a := by omega
    have y2 : e.2 = b := by omega
    rw [y1, y2] at mm
    rw [if_neg (by rw [q]; omega), if_pos c, e12, kinB (by omega), decide_eq_true (show 12 * k + l < 1440 by omega), if_pos rfl, kc (by omega), mm l hla]
  · have y1 : e.1 = b := by omega
    have y2 : e.2 = a := by omega
    rw [y1, y2] at mm
    rw [if_pos (by rw [q]; omega), if_neg c]
    have wlb : ρ.2.2.1 47 b = nI (wl τ b) := by
      obtain ⟨_, _, _, z, _⟩ := hM.2 b (by rw [ag.1]; exact hb)
      rw [z, (ag.2 b hb).2.2.2.1]
    have loop : ∀ (r i fuel : Nat), i + r = wl τ b → r < fuel → lX12_matched_37 fuel (nI b) (nI l) (nI k) (oI (ff (qP τ b a l) i 0)) (nI i) ρ = some (oI (ff (qP τ b a l) (wl τ b) 0), ρ) := by
      intro r
      induction r with
      | zero =>
        intro i fuel hi hfu
        obtain ⟨fu, rfl⟩ : ∃ fu, fuel = fu + 1 := ⟨fuel - 1, by omega⟩
        obtain rfl : i = wl τ b := by omega
        rw [lX12_matched_37, kinB (by omega), decide_eq_true (show b < 16 by omega), if_pos rfl, kc (by omega), wlb, if_pos ((kle (by omega) (by omega)).mpr (Nat.le_refl _))]
      | succ r ih =>
        intro i fuel hi hfu
        obtain ⟨fu, rfl⟩ : ∃ fu, fuel = fu + 1 := ⟨fuel - 1, by omega⟩
        have it := ih (i + 1) fu (by omega) (by omega)
        rw [ff_snoc, Nat.zero_add] at it
        rw [lX12_matched_37, kinB (by omega), decide_eq_true (show b < 16 by omega), if_pos rfl, kc (by omega), wlb, if_neg (by rw [kle (by omega) (by omega)]; omega), e12, kinB (by omega), decide_eq_true (show 12 * k + i < 1440 by omega), if_pos rfl, kc (by omega), mm i (by omega)]
        unfold jX12_matched_72
        simp only [vI_d, k1]
        by_cases d : PN τ b a i = some l
        · have qi : qP τ b a l i = true := decide_eq_true d
          have z : ff (qP τ b a l) i 0 = none := ff_none.mpr (fun i' h1 h2 => decide_eq_false (fun y => by
            have := PN_inc (show i' < i by omega) y d
            omega))
          rw [qi, z, if_pos rfl, Option.none_or] at it
          rw [d, if_pos (show oI (some l) = nI l from rfl)]
          exact it
        · have qi : qP τ b a l i = false := decide_eq_false d
          rw [qi, if_neg (by simp), Option.or_none] at it
          have ne : ¬ oI (PN τ b a i) = nI l := fun z => by
            cases hp : PN τ b a i with
            | none => rw [hp] at z; exact kne1 (by omega) z.symm
            | some x =>
              have := PN_lt hp
              rw [hp] at z
              have z : nI x = nI l := z
              rw [keq (by omega) (by omega)] at z
              rw [hp, z] at d
              exact d rfl
          rw [if_neg ne]
          exact it
    have := loop (wl τ b) 0 1000 (by omega) (by omega)
    exact this
theorem s_sum (h : Inv σ) (a b : Int32) : stepB (fL_sum a b) (fX12_sum a b) σ := by
  rcases fresh01 h with ⟨f0, m0⟩ | ⟨f1, m1⟩
  · refine q_no (k := 1) h (by decide) ?_ ?_
    · unfold fL_sum fX11_sum
      rw [c_run0 f0]; rfl
    · unfold fX12_sum jX12_sum_58
      rw [m_old0 m0, Option.bind_some]
      dsimp only
      rw [if_neg (by decide)]
  · obtain ⟨τ, bk, E, T, f, L, q1, q2, q3, q4, q5⟩ := h.2.2 f1
    have l42 := q3.E42 q1
    have r := c_run1 f1
    have hB := h.1.1
    have mB := h.2.1.1
    have h16 := hB.2.1
    have bad : okN (wn σ) a = false ∨ okN (wn σ) b = false → stepB (fL_sum a b) (fX12_sum a b) σ := fun hb => by
      refine q_no (k := 2) h (by decide) ?_ ?_
      · unfold fL_sum fX11_sum
        rw [r, Option.bind_some]
        dsimp only
        cases c1 : okN (wn σ) a with
        | false => rw [c_bor0 hB c1]; rfl
        | true =>
          rw [c_bor hB c1, Option.bind_some]
          dsimp only
          rw [c_bor0 hB (by rcases hb with z | z; · rw [z] at c1; cases c1
                            · exact z)]
          rfl
      · have mB0 := mB.n0 0
        unfold fX12_sum jX12_sum_24 jX12_sum_29 jX12_sum_58
        rw [m_old1 m1, Option.bind_some]
        dsimp only
        rw [if_pos rfl, m_isB (τ := σ) mB0.1 h16, Option.bind_some]
        simp only [bI_0, m_isB (τ := σ) mB0.1 h16, Option.bind_some, m_fails1 (uI_eq σ 43 0 0) (show ¬ (2 : Int32) ≤ 0 by decide), (show ¬ (1 : Int32) = 0 by decide), if_false]
        rcases hb with z | z
        · rw [if_pos z]
        · cases okN (wn σ) a
          · rw [if_pos rfl]
          · rw [if_neg (by simp), if_pos z]
    cases c1 : okN (wn σ) a with
    | false => exact bad (Or.inl c1)
    | true =>
      cases c2 : okN (wn σ) b with
      | false => exact bad (Or.inr c2)
      | true =>
        obtain ⟨ea, la⟩ := okN_i c1
        obtain ⟨eb, lb⟩ := okN_i c2
        generalize hx : a.toNatClampNeg = x at la ea
        generalize hy : b.toNatClampNeg = y at lb eb
        subst ea eb
        have cn := c_nbr (σ := σ) q4.1.2.2.2 l42 (a := x) (b := y) (by omega) (by omega)
        have mdl : ∀ ρ : rS, MN ρ τ bk E T f L → MB σ ρ → ρ.1 43 1 = 1 → fX12_sum (nI x) (nI y) ρ = (if nbE bk E x y = false then some (0, uI (uI ρ 43 0 0) 43 0 3) else if inB ((16 * nI x) + nI y) 256 then (if inB ((uI ρ 43 0 0).2.2.1 56 ((16 * nI x) + nI y).toNatClampNeg) 120 then some ((uI ρ 43 0 0).2.2.1 58 ((uI ρ 43 0 0).2.2.1 56 ((16 * nI x) + nI y).toNatClampNeg).toNatClampNeg, uI ρ 43 0 0) else none) else none) := fun ρ hM hMB hρ => by
          have N := hM.n0 0
          have mB0 := hMB.n0 0
          unfold fX12_sum jX12_sum_29 jX12_sum_51 jX12_sum_58
          rw [m_old1 hρ, Option.bind_some]
          dsimp only
          rw [if_pos rfl, m_isB (τ := σ) mB0.1 h16, c1, bI_t, Option.bind_some]
          dsimp only
          rw [if_neg (by decide), m_isB (τ := σ) mB0.1 h16, c2, bI_t, Option.bind_some]
          dsimp only
          rw [if_neg (by decide), m_fails0 (uI_eq _ _ _ _), Option.bind_some]
          dsimp only
          rw [if_pos rfl, m_nb N.1 (net_one q3.1) l42 (by omega) (by omega), Option.bind_some]
          simp only [bI_0]
          cases nbE bk E x y with
          | false =>
            rw [if_pos rfl, if_pos rfl, m_fails1 (uI_eq _ _ _ _) (by decide), Option.bind_some]
            dsimp only
            rw [if_neg (by decide)]
          | true =>
            rw [if_neg (by simp), if_neg (by simp), m_fails0 (uI_eq _ _ _ _), Option.bind_some]
            dsimp only
            rw [if_pos rfl]
        cases hn : nbE bk E x y with
        | false =>
          refine q_no (k := 3) h (by decide) ?_ ?_
          · unfold fL_sum fX11_sum
            rw [r, Option.bind_some]
            dsimp only
            rw [c_bor hB c1, Option.bind_some]
            dsimp only
            rw [c_bor hB c2, Option.bind_some]
            dsimp only
            rw [cn, hn]
            rfl
          · rw [mdl σ q5 mB m1, if_pos hn]
        | true =>
          obtain ⟨k, e, k1', k2, he, hbk, hab⟩ := nb_k (net_one q3.1) hn
          have kl := (List.getElem?_eq_some_iff.mp he).1
          obtain ⟨s1, _⟩ := q4.2.2.1 k e kl he hbk
          have i3 : 16 * nI x + nI y = nI (16 * x + y) := by
            show nI 16 * nI x + nI y = _
            rw [kmul, kadd]
          refine q_ok (v := nI (RN τ e.1 e.2 (wl τ e.1) (wl τ e.2))) h ?_ ?_
          · unfold fL_sum fX11_sum
            rw [r, Option.bind_some]
            dsimp only
            rw [c_bor hB c1, Option.bind_some]
            dsimp only
            rw [c_bor hB c2, Option.bind_some]
            dsimp only
            rw [cn, hn, if_pos rfl, Option.bind_some]
            dsimp only
            rw [c_join q4.1.2.2.2 (by omega) (by omega), k1', Option.bind_some]
            dsimp only
            have ok : oI (some k) = nI k := rfl
            rw [ok, kinB (by omega), decide_eq_true (show k < 42 by omega), if_pos rfl, kc (by omega), s1, Option.bind_some]
            dsimp only
            rw [in01, if_pos rfl, vS_d, cl0]
          · have q5o := q5.out 0 (nI (RN τ e.1 e.2 (wl τ e.1) (wl τ e.2))).toInt64
            rw [mdl _ q5o (mB.out 0 _) m1, if_neg (by rw [hn]; simp), i3, kinB (by omega), decide_eq_true (show 16 * x + y < 256 by omega), if_pos rfl, kc (by omega)]
            have N := q5o.n0 0
            obtain ⟨t1, _⟩ := N.2.2.1 k e kl he hbk
            have x56 := N.1.2.2 x y (by omega) (by omega)
            rw [k2] at x56
            have ok : oI (some k) = nI k := rfl
            rw [x56, ok, kinB (by omega), decide_eq_true (show k < 120 by omega), if_pos rfl, kc (by omega), t1]
end Ask3
