/-! section, both. -/
theorem invZ {σ υ : rS} (h : Inv σ) (kz : Fr isZ σ υ) (hb : υ.2.2.2.2 = σ.2.2.2.2) : Inv υ := asmQ (σ1 := υ) (O2 := fun _ => False) (J := fun _ => False) h kz hb (Fr.rf _ _) rfl (fun _ _ => rfl) (fun n z => absurd z id) (fun j z => absurd z id)
theorem q_okZ {σ υ : rS} {c m : rS → Option (Int32 × rS)} {v : Int32} (h : Inv σ) (kz : Fr isZ σ υ) (hb : υ.2.2.2.2 = σ.2.2.2.2) (hc : c σ = some (0, uO υ 0 v.toInt64)) (hm : m (uO υ 0 v.toInt64) = some (v, uI (uO υ 0 v.toInt64) 43 0 0)) : stepB c m σ := ⟨0, _, v, _, hc, hm, uI_eq _ _ _ _, fun _ => rfl, inv_no ((invZ h kz hb).out 0 _) 0⟩
theorem q_noZ {σ υ : rS} {c m : rS → Option (Int32 × rS)} {k : Int32} (h : Inv σ) (kz : Fr isZ σ υ) (hb : υ.2.2.2.2 = σ.2.2.2.2) (hk : k ≠ 0) (hc : c σ = some (k, υ)) (hm : m υ = some (0, uI (uI υ 43 0 0) 43 0 k)) : stepB c m σ := ⟨k, _, 0, _, hc, hm, uI_eq _ _ _ _, fun z => absurd z hk, inv_no (inv_no (invZ h kz hb) 0) k⟩
section Sect3
variable {σ ρ τ : rS} {bk : Nat × Nat → Bool} {E : List (Nat × Nat)} {T : List (Nat × Nat × Nat)} {f : Nat → Option Nat} {L : List Nat}
theorem rowS_le {pA pB : Nat → Option Nat} {m n : Nat} : ∀ s i j, (rowS pA pB m n s i j).length ≤ s
  | 0, i, j => Nat.le_refl _
  | s + 1, i, j => by
    rw [rowS]
    split
    · have := rowS_le (pA := pA) (pB := pB) (m := m) (n := n) s (i + 1) j
      rw [List.length_cons]; omega
    · split
      · have := rowS_le (pA := pA) (pB := pB) (m := m) (n := n) s i (j + 1)
        rw [List.length_cons]; omega
      · split
        · have := rowS_le (pA := pA) (pB := pB) (m := m) (n := n) s (i + 1) (j + 1)
          rw [List.length_cons]; omega
        · exact Nat.zero_le _
theorem s_section (h : Inv σ) (a b k w : Int32) : stepB (fL_section a b k w) (fX12_section a b k w) σ := by
  rcases fresh01 h with ⟨f0, m0⟩ | ⟨f1, m1⟩
  · refine q_no (k := 1) h (by decide) ?_ ?_
    · unfold fL_section fX11_section
      rw [c_run0 f0]; rfl
    · unfold fX12_section jX12_section_58
      rw [m_old0 m0, Option.bind_some]
      dsimp only
      rw [if_neg (by decide)]
  · obtain ⟨τ, bk, E, T, f, L, q1, q2, q3, q4, q5⟩ := h.2.2 f1
    have l42 := q3.E42 q1
    have r := c_run1 f1
    have hB := h.1.1
    have mB := h.2.1.1
    have h16 := hB.2.1
    have bad : okN (wn σ) a = false ∨ okN (wn σ) b = false → stepB (fL_section a b k w) (fX12_section a b k w) σ := fun hb => by
      refine q_no (k := 2) h (by decide) ?_ ?_
      · unfold fL_section fX11_section
        rw [r, Option.bind_some]
        dsimp only
        cases c1 : okN (wn σ) a with
        | false => rw [c_bor0 hB c1]; rfl
        | true =>
          rw [c_bor hB c1, Option.bind_some]
          dsimp only
          rw [c_bor0 hB (by rcases hb with z | z; · rw [z] at c1; cases c1
                            · exact z)]
          rfl
      · have mB0 := mB.n0 0
        unfold fX12_section jX12_section_24 jX12_section_29 jX12_section_58
        rw [m_old1 m1, Option.bind_some]
        dsimp only
        rw [if_pos rfl, m_isB (τ := σ) mB0.1 h16, Option.bind_some]
        simp only [bI_0, m_isB (τ := σ) mB0.1 h16, Option.bind_some, m_fails1 (uI_eq σ 43 0 0) (show ¬ (2 : Int32) ≤ 0 by decide), (show ¬ (1 : Int32) = 0 by decide), if_false]
        rcases hb with z | z
        · rw [if_pos z]
        · cases okN (wn σ) a
          · rw [if_pos rfl]
          · rw [if_neg (by simp), if_pos z]
    cases c1 : okN (wn σ) a with
    | false => exact bad (Or.inl c1)
    | true =>
      cases c2 : okN (wn σ) b with
      | false => exact bad (Or.inr c2)
      | true =>
        obtain ⟨ea, la⟩ := okN_i c1
        obtain ⟨eb, lb⟩ := okN_i c2
        generalize hx : a.toNatClampNeg = x at la ea
        generalize hy : b.toNatClampNeg = y at lb eb
        subst ea eb
        have xa : x < wn τ := by rw [← q2.1]; exact la
        have ya : y < wn τ := by rw [← q2.1]; exact lb
        have wla : wl σ x = wl τ x := (q2.2 x xa).2.2.2.1
        have wlb : wl σ y = wl τ y := (q2.2 y ya).2.2.2.1
        obtain ⟨lx1, lx2⟩ := l_ok hB la
        obtain ⟨ly1, ly2⟩ := l_ok hB lb
        rw [wla] at lx1 lx2
        rw [wlb] at ly1 ly2
        have cn := c_nbr (σ := σ) q4.1.2.2.2 l42 (a := x) (b := y) (by omega) (by omega)
        -- the model up to its loop
        have mdl : ∀ ρ : rS, MN ρ τ bk E T f L → MB σ ρ → ρ.1 43 1 = 1 → fX12_section (nI x) (nI y) k w ρ = (if nbE bk E x y = false then some (0, uI (uI ρ 43 0 0) 43 0 3) else lX12_section_78 1000 (nI x) (nI y) k w 0 0 0 (-1) (-1) 0 (uI ρ 43 0 0)) := fun ρ hM hMB hρ => by
          have N := hM.n0 0
          have mB0 := hMB.n0 0
          unfold fX12_section jX12_section_29 jX12_section_51 jX12_section_58
          rw [m_old1 hρ, Option.bind_some]
          dsimp only
          rw [if_pos rfl, m_isB (τ := σ) mB0.1 h16, c1, bI_t, Option.bind_some]
          dsimp only
          rw [if_neg (by decide), m_isB (τ := σ) mB0.1 h16, c2, bI_t, Option.bind_some]
          dsimp only
          rw [if_neg (by decide), m_fails0 (uI_eq _ _ _ _), Option.bind_some]
          dsimp only
          rw [if_pos rfl, m_nb N.1 (net_one q3.1) l42 (by omega) (by omega), Option.bind_some]
          simp only [bI_0]
          cases nbE bk E x y with
          | false =>
            rw [if_pos rfl, if_pos rfl, m_fails1 (uI_eq _ _ _ _) (by decide), Option.bind_some]
            dsimp only
            rw [if_neg (by decide)]
          | true =>
            rw [if_neg (by simp), if_neg (by simp), m_fails0 (uI_eq _ _ _ _), Option.bind_some]
            dsimp only
            rw [if_pos rfl]
        cases hn : nbE bk E x y with
        | false =>
          refine q_no (k := 3) h (by decide) ?_ ?_
          · unfold fL_section fX11_section
            rw [r, Option.bind_some]
            dsimp only
            rw [c_bor hB c1, Option.bind_some]
            dsimp only
            rw [c_bor hB c2, Option.bind_some]
            dsimp only
            rw [cn, hn]
            rfl
          · rw [mdl σ q5 mB m1, if_pos hn]
        | true =>
          have env : envC τ σ bk E := ⟨q4.1.2.2.2, q4.2.2.1⟩
          obtain ⟨ω, d1, d2, d3⟩ := draw_loop (υ := σ) q1 q3.1 l42 env xa ya (wl τ x + wl τ y) 0 0 1000 (uI σ 18 3 0) [] (by omega) (by omega) (by omega) (by omega) (by omega) (by show 0 + _ ≤ _; omega) ⟨fun i' j' z => by omega, fun j' i' z => by omega⟩ (Kp.uI (Or.inl rfl)) ⟨uI_eq _ _ _ _, fun k x z => (by simp at z)⟩
          rw [List.nil_append] at d3
          have Rl := rowS_le (pA := ptN τ (nbE bk E) x y) (pB := ptN τ (nbE bk E) y x) (m := wl τ x) (n := wl τ y) (wl τ x + wl τ y) 0 0
          have loop := fun (ρ : rS) (hM : MN ρ τ bk E T f L) (hMB : MB σ ρ) => sect_loop q1 hMB q2 q3.1 l42 hM.1 hM.2.2.1 xa ya hn k w (wl τ x + wl τ y) 0 0 0 1000 (-1, -1, false) (by omega) (by omega) (by omega) (by omega) ⟨fun i' j' z => by omega, fun j' i' z => by omega⟩
          generalize rowS (ptN τ (nbE bk E) x y) (ptN τ (nbE bk E) y x) (wl τ x) (wl τ y) (wl τ x + wl τ y) 0 0 = R at d3 Rl loop
          have kz : Fr isZ σ ω := (d2.mono (fun n z => by omega)).1
          have hb5 : ω.2.2.2.2 = σ.2.2.2.2 := by rw [d2.2]
          have drw : fX5_draw (nI x) (nI y) σ = some ((), ω) := by
            unfold fX5_draw
            rw [vS_d, kinB (by omega), decide_eq_true (show x < 16 by omega), if_pos rfl, kc (by omega), if_pos (bo_ok (by omega)), uI_ne (by omega), lx1, vI_d, kinB (by omega), decide_eq_true (show y < 16 by omega), if_pos rfl, kc (by omega), if_pos (bo_ok (by omega)), uI_ne (by omega), ly1, vI_d]
            rw [Nat.sub_self, show nI 0 = 0 from rfl] at d1
            exact d1
          have q5w : MN ω τ bk E T f L := MN.kp (υ := σ) ((d2.1 43 (by omega)).1 _) ((d2.1 43 (by omega)).1 _) ((d2.1 43 (by omega)).1 _) (fun n z1 z2 k => (d2.1 n (by omega)).2.2 k) q5
          have mBw : MB σ ω := MB.mo (υ := σ) ((d2.1 43 (by omega)).1 _) (fun n z1 z2 k => (d2.1 n (by omega)).2.2 k) mB
          have m1w : ω.1 43 1 = 1 := by rw [(d2.1 43 (by omega)).1]; exact m1
          have z00 : nI 0 = 0 := rfl
          have mfull : ∀ ρ : rS, MN ρ τ bk E T f L → MB σ ρ → ρ.1 43 1 = 1 → fX12_section (nI x) (nI y) k w ρ = jX12_section_273 w (pick R k 0 (-1, -1, false)).1 (pick R k 0 (-1, -1, false)).2.1 (bI (!(pick R k 0 (-1, -1, false)).2.2)) (uI ρ 43 0 0) := fun ρ hM hMB hρ => by
            rw [mdl ρ hM hMB hρ, if_neg (by rw [hn]; simp)]
            have := loop (uI ρ 43 0 0) (hM.n0 0) (hMB.n0 0)
            rw [z00] at this
            exact this
          have oo : okB (0 : Int32).toInt (1 : Int32).toInt w = okB 0 1 w := rfl
          have pre : ∀ (X : (Except String Unit) × rS → Option ((Except String Int32) × rS)), True := fun _ => trivial
          cases c3 : okN R.length k with
          | false =>
            have po : pick R k 0 (-1, -1, false) = (-1, -1, false) := pick_out R k 0 _ (by omega) (by
              have nz : ¬ (0 ≤ k.toInt ∧ k.toInt < (R.length : Int)) := of_decide_eq_false c3
              omega)
            refine q_noZ (k := 2) (υ := ω) h kz hb5 (by decide) ?_ ?_
            · unfold fL_section fX11_section
              rw [r, Option.bind_some]
              dsimp only
              rw [c_bor hB c1, Option.bind_some]
              dsimp only
              rw [c_bor hB c2, Option.bind_some]
              dsimp only
              rw [cn, hn, if_pos rfl, Option.bind_some]
              dsimp only
              rw [drw, Option.bind_some]
              dsimp only
              rw [d3.1, c_idx0 (by omega) ω c3]
              rfl
            · rw [mfull ω q5w mBw m1w, po]
              unfold jX12_section_273 jX12_section_303
              show (fX12_fails 1 2 _).bind _ = _
              rw [m_fails1 (uI_eq _ _ _ _) (by decide), Option.bind_some]
              dsimp only
              rw [if_neg (by decide)]
          | true =>
            obtain ⟨ek, lk⟩ := okN_i c3
            generalize hkk : k.toNatClampNeg = kk at lk ek
            subst ek
            obtain ⟨p, hp⟩ : ∃ p, R[kk]? = some p := ⟨_, List.getElem?_eq_getElem lk⟩
            have po : pick R (nI kk) 0 (-1, -1, false) = (p.1, p.2, true) := by
              have := pick_in R kk 0 (-1, -1, false) p (by omega) hp
              rw [Nat.zero_add] at this
              exact this
            obtain ⟨y1, y2⟩ := d3.2 kk p hp
            have cls : fX11_section (nI x) (nI y) (nI kk) w σ = (if okB 0 1 w = true then some (.ok (if w = 0 then p.1 else p.2), ω) else some (.error "java/lang/IllegalArgumentException", ω)) := by
              unfold fX11_section jX11_section_81
              rw [r, Option.bind_some]
              dsimp only
              rw [c_bor hB c1, Option.bind_some]
              dsimp only
              rw [c_bor hB c2, Option.bind_some]
              dsimp only
              rw [cn, hn, if_pos rfl, Option.bind_some]
              dsimp only
              rw [drw, Option.bind_some]
              dsimp only
              rw [d3.1, c_idx (by omega) ω c3, Option.bind_some]
              dsimp only
              cases c4 : okB 0 1 w with
              | false =>
                rw [c_frm0 ω (oo.trans c4), Option.bind_some]
                rfl
              | true =>
                rw [c_frm ω (oo.trans c4), Option.bind_some]
                dsimp only
                rw [kinB (by omega), decide_eq_true (show kk < 24 by omega), if_pos rfl, if_pos rfl, if_pos rfl, kc (by omega), y1, y2]
                by_cases z : w = 0
                · rw [if_pos z, if_pos z]
                · rw [if_neg z, if_neg z]
            cases c4 : okB 0 1 w with
            | false =>
              refine q_noZ (k := 3) (υ := ω) h kz hb5 (by decide) ?_ ?_
              · unfold fL_section
                rw [cls, if_neg (by rw [c4]; simp)]
                rfl
              · rw [mfull ω q5w mBw m1w, po]
                unfold jX12_section_273 jX12_section_296 jX12_section_303
                show (fX12_fails 0 2 _).bind _ = _
                rw [m_fails0 (uI_eq _ _ _ _), Option.bind_some]
                dsimp only
                rw [if_pos rfl, m_from, oo, c4, bI_f, Option.bind_some]
                dsimp only
                rw [if_pos rfl, m_fails1 (uI_eq _ _ _ _) (by decide), Option.bind_some]
                dsimp only
                rw [if_neg (by decide)]
            | true =>
              refine q_okZ (v := if w = 0 then p.1 else p.2) (υ := ω) h kz hb5 ?_ ?_
              · unfold fL_section
                rw [cls, if_pos c4, Option.bind_some]
                dsimp only
                rw [in01, if_pos rfl, vS_d, cl0]
              · rw [mfull (uO ω 0 _) (q5w.out 0 _) (mBw.out 0 _) m1w, po]
                unfold jX12_section_273 jX12_section_296 jX12_section_303 jX12_section_317
                show (fX12_fails 0 2 _).bind _ = _
                rw [m_fails0 (uI_eq _ _ _ _), Option.bind_some]
                dsimp only
                rw [if_pos rfl, m_from, oo, c4, bI_t, Option.bind_some]
                dsimp only
                rw [if_neg (by decide), m_fails0 (uI_eq _ _ _ _), Option.bind_some]
                dsimp only
                rw [if_pos rfl]
                by_cases z : w = 0
                · rw [if_pos z, if_pos z]
                · rw [if_neg z, if_neg z]
end Sect3
