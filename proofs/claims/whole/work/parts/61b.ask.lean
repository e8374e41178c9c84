/-! edge, triangle, sum, match, bedOf. -/
theorem uI_00 (σ : rS) : uI (uI σ 43 0 0) 43 0 0 = uI σ 43 0 0 := uI_id (uI_eq _ _ _ _)
theorem c_idx {n : Nat} (hn : n < 2147483648) {a : Int32} (σ : rS) (h : okN n a = true) : fX11_requireIndex a (nI n) σ = some (.ok (), σ) := by rw [c_reqI hn, if_pos h]
theorem c_idx0 {n : Nat} (hn : n < 2147483648) {a : Int32} (σ : rS) (h : okN n a = false) : fX11_requireIndex a (nI n) σ = some (.error "java/lang/IndexOutOfBoundsException", σ) := by rw [c_reqI hn, if_neg (by rw [h]; simp)]
theorem c_bor {σ : rS} (hv : VB σ) {a : Int32} (h : okN (wn σ) a = true) : fX11_requireBoring a σ = some (.ok (), σ) := by rw [c_reqB hv, if_pos h]
theorem c_bor0 {σ : rS} (hv : VB σ) {a : Int32} (h : okN (wn σ) a = false) : fX11_requireBoring a σ = some (.error "java/lang/IndexOutOfBoundsException", σ) := by rw [c_reqB hv, if_neg (by rw [h]; simp)]
theorem c_frm {lo hi a : Int32} (σ : rS) (h : okB lo.toInt hi.toInt a = true) : fX11_requireFrom lo hi a σ = some (.ok (), σ) := by
  unfold fX11_requireFrom
  rw [c_from, h, Option.bind_some]
  dsimp only
  rw [if_neg (by decide)]
theorem c_frm0 {lo hi a : Int32} (σ : rS) (h : okB lo.toInt hi.toInt a = false) : fX11_requireFrom lo hi a σ = some (.error "java/lang/IllegalArgumentException", σ) := by
  unfold fX11_requireFrom
  rw [c_from, h, Option.bind_some]
  dsimp only
  rw [if_pos (by decide)]
theorem ok02 {a : Int32} (h : okB 0 2 a = true) : a = 0 ∨ a = 1 ∨ a = 2 := by
  obtain ⟨h1, h2⟩ := okB_t.mp h
  rcases (show a.toInt = 0 ∨ a.toInt = 1 ∨ a.toInt = 2 by omega) with z | z | z
  · exact Or.inl (i_eq z)
  · exact Or.inr (Or.inl (i_eq z))
  · exact Or.inr (Or.inr (i_eq z))
theorem no02 {a : Int32} (h : okB 0 2 a = false) : ¬ a = 0 ∧ ¬ a = 1 ∧ ¬ a = 2 := by
  refine ⟨fun z => ?_, fun z => ?_, fun z => ?_⟩ <;> subst z <;> exact absurd h (by decide)
section Ask2
variable {σ ρ τ : rS} {bk : Nat × Nat → Bool} {E : List (Nat × Nat)} {T : List (Nat × Nat × Nat)} {f : Nat → Option Nat} {L : List Nat}
theorem s_edge (h : Inv σ) (a w : Int32) : stepB (fL_edge a w) (fX12_edge a w) σ := by
  rcases fresh01 h with ⟨f0, m0⟩ | ⟨f1, m1⟩
  · refine q_no (k := 1) h (by decide) ?_ ?_
    · unfold fL_edge fX11_edge
      rw [c_run0 f0]; rfl
    · unfold fX12_edge jX12_edge_56
      rw [m_old0 m0, Option.bind_some]
      dsimp only
      rw [if_neg (by decide)]
  · obtain ⟨τ, bk, E, T, f, L, q1, q2, q3, q4, q5⟩ := h.2.2 f1
    have l42 := q3.E42 q1
    have r := c_run1 f1
    have old : ∀ ρ : rS, ρ.1 43 1 = 1 → fX12_isOld ρ = some (0, uI ρ 43 0 0) := fun ρ hρ => m_old1 hρ
    cases c1 : okN E.length a with
    | false =>
      refine q_no (k := 2) h (by decide) ?_ ?_
      · unfold fL_edge fX11_edge
        rw [r, Option.bind_some]
        dsimp only
        rw [q4.1.1.1, c_idx0 (by omega) σ c1]
        rfl
      · have N := q5.n0 0
        unfold fX12_edge jX12_edge_27 jX12_edge_56
        rw [old σ m1, Option.bind_some]
        dsimp only
        rw [if_pos rfl, N.1.1.1, m_idx (by omega), c1, bI_f, Option.bind_some]
        dsimp only
        rw [if_pos rfl, m_fails1 (uI_eq _ _ _ _) (by decide), Option.bind_some]
        dsimp only
        rw [if_neg (by decide)]
    | true =>
      obtain ⟨ea, la⟩ := okN_i c1
      generalize hk : a.toNatClampNeg = k at la ea
      subst ea
      obtain ⟨e, he⟩ : ∃ e, E[k]? = some e := ⟨_, List.getElem?_eq_getElem la⟩
      obtain ⟨x1, x2⟩ := q4.1.1.2 k e he
      have x3 := q4.1.2.2.1 k e he
      have cls : fX11_edge (nI k) w σ = (if w = 0 then some (.ok (nI e.1), σ) else if w = 1 then some (.ok (nI e.2), σ) else if w = 2 then some (.ok (bI (bk e)), σ) else some (.error "java/lang/IllegalArgumentException", σ)) := by
        unfold fX11_edge jX11_edge_81
        rw [r, Option.bind_some]
        dsimp only
        rw [q4.1.1.1, c_idx (by omega) σ c1, Option.bind_some]
        dsimp only
        rw [kinB (by omega), decide_eq_true (show k < 42 by omega)]
        simp only [if_true, kc (show k < 2147483648 by omega), x1, x2, x3, bI_0]
        cases bk e <;> rfl
      have mdl : ∀ ρ : rS, MN ρ τ bk E T f L → ρ.1 43 1 = 1 → fX12_edge (nI k) w ρ = (if okB 0 2 w = false then some (0, uI (uI ρ 43 0 0) 43 0 3) else if w = 0 then some (nI e.1, uI ρ 43 0 0) else if w = 1 then some (nI e.2, uI ρ 43 0 0) else some (bI (bk e), uI ρ 43 0 0)) := fun ρ hM hρ => by
        have N := hM.n0 0
        obtain ⟨y1, y2⟩ := N.1.1.2 k e he
        have y3 := N.1.2.1 k e he
        unfold fX12_edge jX12_edge_27 jX12_edge_49 jX12_edge_56 jX12_edge_99
        rw [old ρ hρ, Option.bind_some]
        dsimp only
        rw [if_pos rfl, N.1.1.1, m_idx (by omega), c1, bI_t, Option.bind_some]
        dsimp only
        rw [if_neg (by decide), m_fails0 (uI_eq _ _ _ _), Option.bind_some]
        dsimp only
        rw [if_pos rfl, m_from, Option.bind_some]
        have oo : okB (0 : Int32).toInt (2 : Int32).toInt w = okB 0 2 w := rfl
        rw [oo]
        simp only [bI_0]
        cases c2 : okB 0 2 w with
        | false =>
          rw [if_pos rfl, if_pos rfl, m_fails1 (uI_eq _ _ _ _) (by decide), Option.bind_some]
          dsimp only
          rw [if_neg (by decide)]
        | true =>
          rw [if_neg (by simp), if_neg (by simp), m_fails0 (uI_eq _ _ _ _), Option.bind_some]
          dsimp only
          rw [if_pos rfl, kinB (by omega), decide_eq_true (show k < 120 by omega)]
          simp only [if_true, kc (show k < 2147483648 by omega), y1, y2, y3, bI_0]
          cases bk e <;> rfl
      cases c2 : okB 0 2 w with
      | false =>
        obtain ⟨n0, n1, n2⟩ := no02 c2
        refine q_no (k := 3) h (by decide) ?_ ?_
        · unfold fL_edge
          rw [cls, if_neg n0, if_neg n1, if_neg n2]
          rfl
        · rw [mdl σ q5 m1, if_pos c2]
      | true =>
        have fin : ∀ v : Int32, fX11_edge (nI k) w σ = some (.ok v, σ) → (if okB 0 2 w = false then some ((0 : Int32), uI (uI (uO σ 0 v.toInt64) 43 0 0) 43 0 3) else if w = 0 then some (nI e.1, uI (uO σ 0 v.toInt64) 43 0 0) else if w = 1 then some (nI e.2, uI (uO σ 0 v.toInt64) 43 0 0) else some (bI (bk e), uI (uO σ 0 v.toInt64) 43 0 0)) = some (v, uI (uO σ 0 v.toInt64) 43 0 0) → stepB (fL_edge (nI k) w) (fX12_edge (nI k) w) σ := fun v hv hm => by
          refine q_ok (v := v) h ?_ ?_
          · unfold fL_edge
            rw [hv, Option.bind_some]
            dsimp only
            rw [in01, if_pos rfl, vS_d, cl0]
          · rw [mdl _ (q5.out 0 _) m1]
            exact hm
        rcases ok02 c2 with z | z | z
        · exact fin (nI e.1) (by rw [cls, if_pos z]) (by rw [if_neg (by rw [c2]; simp), if_pos z])
        · exact fin (nI e.2) (by rw [cls, if_neg (by rw [z]; decide), if_pos z]) (by rw [if_neg (by rw [c2]; simp), if_neg (by rw [z]; decide), if_pos z])
        · exact fin (bI (bk e)) (by rw [cls, if_neg (by rw [z]; decide), if_neg (by rw [z]; decide), if_pos z]) (by rw [if_neg (by rw [c2]; simp), if_neg (by rw [z]; decide), if_neg (by rw [z]; decide)])
def crn (t : Nat × Nat × Nat) (w : Int32) : Nat := if w = 0 then t.1 else if w = 1 then t.2.1 else t.2.2
theorem s_triangle (h : Inv σ) (a w : Int32) : stepB (fL_triangle a w) (fX12_triangle a w) σ := by
  rcases fresh01 h with ⟨f0, m0⟩ | ⟨f1, m1⟩
  · refine q_no (k := 1) h (by decide) ?_ ?_
    · unfold fL_triangle fX11_triangle
      rw [c_run0 f0]; rfl
    · unfold fX12_triangle jX12_triangle_56
      rw [m_old0 m0, Option.bind_some]
      dsimp only
      rw [if_neg (by decide)]
  · obtain ⟨τ, bk, E, T, f, L, q1, q2, q3, q4, q5⟩ := h.2.2 f1
    have l27 := q3.T27 q1
    have r := c_run1 f1
    cases c1 : okN T.length a with
    | false =>
      refine q_no (k := 2) h (by decide) ?_ ?_
      · unfold fL_triangle fX11_triangle
        rw [r, Option.bind_some]
        dsimp only
        rw [q4.2.1.1, c_idx0 (by omega) σ c1]
        rfl
      · have N := q5.n0 0
        unfold fX12_triangle jX12_triangle_27 jX12_triangle_56
        rw [m_old1 m1, Option.bind_some]
        dsimp only
        rw [if_pos rfl, N.2.1.1, m_idx (by omega), c1, bI_f, Option.bind_some]
        dsimp only
        rw [if_pos rfl, m_fails1 (uI_eq _ _ _ _) (by decide), Option.bind_some]
        dsimp only
        rw [if_neg (by decide)]
    | true =>
      obtain ⟨ea, la⟩ := okN_i c1
      generalize hk : a.toNatClampNeg = k at la ea
      subst ea
      obtain ⟨t, ht⟩ : ∃ t, T[k]? = some t := ⟨_, List.getElem?_eq_getElem la⟩
      have oo : okB (0 : Int32).toInt (2 : Int32).toInt w = okB 0 2 w := rfl
      cases c2 : okB 0 2 w with
      | false =>
        refine q_no (k := 3) h (by decide) ?_ ?_
        · unfold fL_triangle fX11_triangle
          rw [r, Option.bind_some]
          dsimp only
          rw [q4.2.1.1, c_idx (by omega) σ c1, Option.bind_some]
          dsimp only
          rw [c_frm0 σ (oo.trans c2)]
          rfl
        · have N := q5.n0 0
          unfold fX12_triangle jX12_triangle_27 jX12_triangle_49 jX12_triangle_56
          rw [m_old1 m1, Option.bind_some]
          dsimp only
          rw [if_pos rfl, N.2.1.1, m_idx (by omega), c1, bI_t, Option.bind_some]
          dsimp only
          rw [if_neg (by decide), m_fails0 (uI_eq _ _ _ _), Option.bind_some]
          dsimp only
          rw [if_pos rfl, m_from, oo, c2, bI_f, Option.bind_some]
          dsimp only
          rw [if_pos rfl, m_fails1 (uI_eq _ _ _ _) (by decide), Option.bind_some]
          dsimp only
          rw [if_neg (by decide)]
      | true =>
        have wn3 : ∃ j, j < 3 ∧ w = nI j := by
          rcases ok02 c2 with z | z | z
          · exact ⟨0, by omega, z⟩
          · exact ⟨1, by omega, z⟩
          · exact ⟨2, by omega, z⟩
        obtain ⟨j, hj, hw⟩ := wn3
        have e3 : (3 : Int32) * nI k + w = nI (3 * k + j) := by
          rw [hw]
          show nI 3 * nI k + nI j = _
          rw [kmul, kadd]
        have same : ∀ ρ : rS, isTm ρ T → σ.2.2.1 17 (3 * k + j) = ρ.2.2.1 59 (3 * k + j) := fun ρ hM => by
          obtain ⟨x1, x2, x3, _⟩ := q4.2.1.2 k t ht
          obtain ⟨y1, y2, y3⟩ := hM.2 k t ht
          rcases (show j = 0 ∨ j = 1 ∨ j = 2 by omega) with z | z | z <;> subst z
          · exact x1.trans y1.symm
          · exact x2.trans y2.symm
          · exact x3.trans y3.symm
        refine q_ok (v := σ.2.2.1 17 (3 * k + j)) h ?_ ?_
        · unfold fL_triangle fX11_triangle fX6_cornerOf
          rw [r, Option.bind_some]
          dsimp only
          rw [q4.2.1.1, c_idx (by omega) σ c1, Option.bind_some]
          dsimp only
          rw [c_frm σ (oo.trans c2), Option.bind_some]
          dsimp only
          rw [e3, kinB (by omega), decide_eq_true (show 3 * k + j < 81 by omega), if_pos rfl, kc (by omega), Option.bind_some, Option.bind_some]
          dsimp only
          rw [in01, if_pos rfl, vS_d, cl0]
        · have N := (q5.out 0 (σ.2.2.1 17 (3 * k + j)).toInt64).n0 0
          unfold fX12_triangle jX12_triangle_27 jX12_triangle_49 jX12_triangle_56
          rw [m_old1 (σ := uO σ 0 (σ.2.2.1 17 (3 * k + j)).toInt64) m1, Option.bind_some]
          dsimp only
          rw [if_pos rfl, N.2.1.1, m_idx (by omega), c1, bI_t, Option.bind_some]
          dsimp only
          rw [if_neg (by decide), m_fails0 (uI_eq _ _ _ _), Option.bind_some]
          dsimp only
          rw [if_pos rfl, m_from, oo, c2, bI_t, Option.bind_some]
          dsimp only
          rw [if_neg (by decide), m_fails0 (uI_eq _ _ _ _), Option.bind_some]
          dsimp only
          rw [if_pos rfl, e3, kinB (by omega), decide_eq_true (show 3 * k + j < 1680 by omega), if_pos rfl, kc (by omega), ← same _ N.2.1]
end Ask2
