/-! match, bedOf. -/
section Ask4
variable {σ ρ τ : rS} {bk : Nat × Nat → Bool} {E : List (Nat × Nat)} {T : List (Nat × Nat × Nat)} {f : Nat → Option Nat} {L : List Nat}
theorem s_match (h : Inv σ) (a b l : Int32) : stepB (fL_match a b l) (fX12_match a b l) σ := by
  rcases fresh01 h with ⟨f0, m0⟩ | ⟨f1, m1⟩
  · refine q_no (k := 1) h (by decide) ?_ ?_
    · unfold fL_match fX11_match
      rw [c_run0 f0]; rfl
    · unfold fX12_match jX12_match_74
      rw [m_old0 m0, Option.bind_some]
      dsimp only
      rw [if_neg (by decide)]
  · obtain ⟨τ, bk, E, T, f, L, q1, q2, q3, q4, q5⟩ := h.2.2 f1
    have l42 := q3.E42 q1
    have r := c_run1 f1
    have hB := h.1.1
    have mB := h.2.1.1
    have h16 := hB.2.1
    have bad : okN (wn σ) a = false ∨ (okN (wn σ) a = true ∧ (okN (wn σ) b = false ∨ (okN (wn σ) b = true ∧ okN (wl σ a.toNatClampNeg) l = false))) → stepB (fL_match a b l) (fX12_match a b l) σ := fun hb => by
      refine q_no (k := 2) h (by decide) ?_ ?_
      · unfold fL_match fX11_match
        rw [r, Option.bind_some]
        dsimp only
        rcases hb with z | ⟨c1, z | ⟨c2, z⟩⟩
        · rw [c_bor0 hB z]; rfl
        · rw [c_bor hB c1, Option.bind_some]
          dsimp only
          rw [c_bor0 hB z]
          rfl
        · obtain ⟨ea, la⟩ := okN_i c1
          generalize hx : a.toNatClampNeg = x at la ea z
          subst ea
          obtain ⟨l1, l2⟩ := l_ok hB la
          rw [c_bor hB c1, Option.bind_some]
          dsimp only
          rw [c_bor hB c2, Option.bind_some]
          dsimp only
          rw [kinB (by omega), decide_eq_true (show x < 16 by omega), if_pos rfl, if_pos (bo_ok (by omega)), l1, c_idx0 (by omega) σ z]
          rfl
      · have mB0 := mB.n0 0
        unfold fX12_match jX12_match_40 jX12_match_45 jX12_match_74
        rw [m_old1 m1, Option.bind_some]
        dsimp only
        rw [if_pos rfl, m_isB (τ := σ) mB0.1 h16, Option.bind_some]
        simp only [bI_0, m_isB (τ := σ) mB0.1 h16, Option.bind_some, m_fails1 (uI_eq σ 43 0 0) (show ¬ (2 : Int32) ≤ 0 by decide), (show ¬ (1 : Int32) = 0 by decide), if_false]
        rcases hb with z | ⟨c1, z | ⟨c2, z⟩⟩
        · rw [if_pos z]
        · rw [if_neg (by rw [c1]; simp), if_pos z]
        · rw [if_neg (by rw [c1]; simp), if_neg (by rw [c2]; simp)]
          obtain ⟨ea, la⟩ := okN_i c1
          generalize hx : a.toNatClampNeg = x at la ea z
          subst ea
          have l2 := (l_ok hB la).2
          obtain ⟨_, _, _, y1, _⟩ := mB0.2 x la
          rw [kinB (by omega), decide_eq_true (show x < 16 by omega), if_pos rfl, y1, m_idx (by omega), z, bI_f, Option.bind_some]
          dsimp only
          rw [if_pos rfl, m_fails1 (uI_eq _ _ _ _) (by decide), Option.bind_some]
          dsimp only
          rw [if_neg (by decide)]
    cases c1 : okN (wn σ) a with
    | false => exact bad (Or.inl c1)
    | true =>
      cases c2 : okN (wn σ) b with
      | false => exact bad (Or.inr ⟨c1, Or.inl c2⟩)
      | true =>
        cases c3 : okN (wl σ a.toNatClampNeg) l with
        | false => exact bad (Or.inr ⟨c1, Or.inr ⟨c2, c3⟩⟩)
        | true =>
          obtain ⟨ea, la⟩ := okN_i c1
          obtain ⟨eb, lb⟩ := okN_i c2
          obtain ⟨el, ll⟩ := okN_i c3
          generalize hx : a.toNatClampNeg = x at la ea c3 ll
          generalize hy : b.toNatClampNeg = y at lb eb
          generalize hz : l.toNatClampNeg = z at el ll
          subst ea eb el
          obtain ⟨l1, l2⟩ := l_ok hB la
          have xa : x < wn τ := by rw [← q2.1]; exact la
          have ya : y < wn τ := by rw [← q2.1]; exact lb
          have wla : wl σ x = wl τ x := (q2.2 x xa).2.2.2.1
          have zl : z < wl τ x := by rw [← wla]; exact ll
          have cn := c_nbr (σ := σ) q4.1.2.2.2 l42 (a := x) (b := y) (by omega) (by omega)
          have cp := c_partner (σ := σ) q1 q4.1.2.2.2 q3.1 l42 q4.2.2.1 (a := x) (b := y) (l := z) (by omega) (by omega) zl (by rw [← wla]; exact l2)
          have cls : fX11_match (nI x) (nI y) (nI z) σ = (if nbE bk E x y = true then some (.ok (oI (ptN τ (nbE bk E) x y z)), σ) else some (.error "java/lang/IllegalArgumentException", σ)) := by
            unfold fX11_match
            rw [r, Option.bind_some]
            dsimp only
            rw [c_bor hB c1, Option.bind_some]
            dsimp only
            rw [c_bor hB c2, Option.bind_some]
            dsimp only
            rw [kinB (by omega), decide_eq_true (show x < 16 by omega), if_pos rfl, kc (by omega), if_pos (bo_ok (by omega)), l1, c_idx (by omega) σ c3, Option.bind_some]
            dsimp only
            rw [cn, Option.bind_some]
            cases nbE bk E x y
            · rfl
            · rw [if_pos rfl, if_pos rfl]
              dsimp only
              rw [cp, Option.bind_some]
          have mdl : ∀ ρ : rS, MN ρ τ bk E T f L → MB σ ρ → ρ.1 43 1 = 1 → fX12_match (nI x) (nI y) (nI z) ρ = (if nbE bk E x y = false then some (0, uI (uI ρ 43 0 0) 43 0 3) else some (oI (ptN τ (nbE bk E) x y z), uI ρ 43 0 0)) := fun ρ hM hMB hρ => by
            have N := hM.n0 0
            have mB0 := hMB.n0 0
            obtain ⟨_, _, _, y1, _⟩ := mB0.2 x la
            unfold fX12_match jX12_match_45 jX12_match_67 jX12_match_74
            rw [m_old1 hρ, Option.bind_some]
            dsimp only
            rw [if_pos rfl, m_isB (τ := σ) mB0.1 h16, c1, bI_t, Option.bind_some]
            dsimp only
            rw [if_neg (by decide), m_isB (τ := σ) mB0.1 h16, c2, bI_t, Option.bind_some]
            dsimp only
            rw [if_neg (by decide), kinB (by omega), decide_eq_true (show x < 16 by omega), if_pos rfl, kc (by omega), y1, m_idx (by omega), c3, bI_t, Option.bind_some]
            dsimp only
            rw [if_neg (by decide), m_fails0 (uI_eq _ _ _ _), Option.bind_some]
            dsimp only
            rw [if_pos rfl, m_nb N.1 (net_one q3.1) l42 (by omega) (by omega), Option.bind_some]
            simp only [bI_0]
            cases hn : nbE bk E x y with
            | false =>
              rw [if_pos rfl, if_pos rfl, m_fails1 (uI_eq _ _ _ _) (by decide), Option.bind_some]
              dsimp only
              rw [if_neg (by decide)]
            | true =>
              rw [if_neg (by simp), if_neg (by simp), m_fails0 (uI_eq _ _ _ _), Option.bind_some]
              dsimp only
              rw [if_pos rfl, m_matched q1 mB0 q2 q3.1 l42 N.1 N.2.2.1 xa ya zl hn, Option.bind_some]
          cases hn : nbE bk E x y with
          | false =>
            refine q_no (k := 3) h (by decide) ?_ ?_
            · unfold fL_match
              rw [cls, hn]
              rfl
            · rw [mdl σ q5 mB m1, if_pos hn]
          | true =>
            refine q_ok (v := oI (ptN τ (nbE bk E) x y z)) h ?_ ?_
            · unfold fL_match
              rw [cls, if_pos hn, Option.bind_some]
              dsimp only
              rw [in01, if_pos rfl, vS_d, cl0]
            · rw [mdl _ (q5.out 0 _) (mB.out 0 _) m1, if_neg (by rw [hn]; simp)]
theorem s_bedOf (h : Inv σ) (a l : Int32) : stepB (fL_bedOf a l) (fX12_bedOf a l) σ := by
  rcases fresh01 h with ⟨f0, m0⟩ | ⟨f1, m1⟩
  · refine q_no (k := 1) h (by decide) ?_ ?_
    · unfold fL_bedOf fX11_bedOf
      rw [c_run0 f0]; rfl
    · unfold fX12_bedOf jX12_bedOf_44
      rw [m_old0 m0, Option.bind_some]
      dsimp only
      rw [if_neg (by decide)]
  · obtain ⟨τ, bk, E, T, f, L, q1, q2, q3, q4, q5⟩ := h.2.2 f1
    have r := c_run1 f1
    have hB := h.1.1
    have mB := h.2.1.1
    have h16 := hB.2.1
    have mdl0 : ∀ ρ : rS, MB σ ρ → ρ.1 43 1 = 1 → (okN (wn σ) a = false ∨ (okN (wn σ) a = true ∧ okN (wl σ a.toNatClampNeg) l = false)) → fX12_bedOf a l ρ = some (0, uI (uI ρ 43 0 0) 43 0 2) := fun ρ hMB hρ hb => by
      have mB0 := hMB.n0 0
      unfold fX12_bedOf jX12_bedOf_32 jX12_bedOf_37 jX12_bedOf_44
      rw [m_old1 hρ, Option.bind_some]
      dsimp only
      rw [if_pos rfl, m_isB (τ := σ) mB0.1 h16, Option.bind_some]
      simp only [bI_0, m_fails1 (uI_eq ρ 43 0 0) (show ¬ (2 : Int32) ≤ 0 by decide), Option.bind_some, (show ¬ (1 : Int32) = 0 by decide), if_false]
      rcases hb with z | ⟨c1, z⟩
      · rw [if_pos z]
      · rw [if_neg (by rw [c1]; simp)]
        obtain ⟨ea, la⟩ := okN_i c1
        generalize hx : a.toNatClampNeg = x at la ea z
        subst ea
        have l2 := (l_ok hB la).2
        obtain ⟨_, _, _, y1, _⟩ := mB0.2 x la
        rw [kinB (by omega), decide_eq_true (show x < 16 by omega), if_pos rfl, y1, m_idx (by omega), z, bI_f, Option.bind_some]
        dsimp only
        rw [if_pos rfl, m_fails1 (uI_eq _ _ _ _) (by decide), Option.bind_some]
        dsimp only
        rw [if_neg (by decide)]
    cases c1 : okN (wn σ) a with
    | false =>
      refine q_no (k := 2) h (by decide) ?_ (mdl0 σ mB m1 (Or.inl c1))
      unfold fL_bedOf fX11_bedOf
      rw [r, Option.bind_some]
      dsimp only
      rw [c_bor0 hB c1]; rfl
    | true =>
      cases c3 : okN (wl σ a.toNatClampNeg) l with
      | false =>
        refine q_no (k := 2) h (by decide) ?_ (mdl0 σ mB m1 (Or.inr ⟨c1, c3⟩))
        obtain ⟨ea, la⟩ := okN_i c1
        generalize hx : a.toNatClampNeg = x at la ea c3
        subst ea
        obtain ⟨l1, l2⟩ := l_ok hB la
        unfold fL_bedOf fX11_bedOf
        rw [r, Option.bind_some]
        dsimp only
        rw [c_bor hB c1, Option.bind_some]
        dsimp only
        rw [kinB (by omega), decide_eq_true (show x < 16 by omega), if_pos rfl, kc (show x < 2147483648 by omega), if_pos (bo_ok (by omega)), l1, c_idx0 (by omega) σ c3]
        rfl
      | true =>
        obtain ⟨ea, la⟩ := okN_i c1
        obtain ⟨el, ll⟩ := okN_i c3
        generalize hx : a.toNatClampNeg = x at la ea c3 ll
        generalize hz : l.toNatClampNeg = z at el ll
        subst ea el
        obtain ⟨l1, l2⟩ := l_ok hB la
        have sl : nI x * 12 + nI z = nI (12 * x + z) := by
          show nI x * nI 12 + nI z = _
          rw [kmul, kadd, Nat.mul_comm]
        have sl2 : (12 : Int32) * nI x + nI z = nI (12 * x + z) := by
          show nI 12 * nI x + nI z = _
          rw [kmul, kadd]
        refine q_ok (v := oI (f (12 * x + z))) h ?_ ?_
        · unfold fL_bedOf fX11_bedOf fX11_slotOf
          rw [r, Option.bind_some]
          dsimp only
          rw [c_bor hB c1, Option.bind_some]
          dsimp only
          rw [kinB (by omega), decide_eq_true (show x < 16 by omega), if_pos rfl, kc (by omega), if_pos (bo_ok (by omega)), l1, c_idx (by omega) σ c3, Option.bind_some]
          dsimp only
          rw [Option.bind_some, sl, kinB (by omega), decide_eq_true (show 12 * x + z < 192 by omega), if_pos rfl, kc (by omega), q4.2.2.2.2.1 _ (by omega), Option.bind_some]
          dsimp only
          rw [in01, if_pos rfl, vS_d, cl0]
        · have N := (q5.out 0 (oI (f (12 * x + z))).toInt64).n0 0
          have mB0 := (mB.out 0 (oI (f (12 * x + z))).toInt64).n0 0
          obtain ⟨_, _, _, y1, _⟩ := mB0.2 x la
          unfold fX12_bedOf jX12_bedOf_37 jX12_bedOf_44
          rw [m_old1 (σ := uO σ 0 _) m1, Option.bind_some]
          dsimp only
          rw [if_pos rfl, m_isB (τ := σ) mB0.1 h16, c1, bI_t, Option.bind_some]
          dsimp only
          rw [if_neg (by decide), kinB (by omega), decide_eq_true (show x < 16 by omega), if_pos rfl, kc (by omega), y1, m_idx (by omega), c3, bI_t, Option.bind_some]
          dsimp only
          rw [if_neg (by decide), m_fails0 (uI_eq _ _ _ _), Option.bind_some]
          dsimp only
          rw [if_pos rfl, sl2, kinB (by omega), decide_eq_true (show 12 * x + z < 192 by omega), if_pos rfl, kc (by omega), N.2.2.2.1 _ (by omega)]
end Ask4
