/-! bed. -/
section Bed
variable {σ ρ τ : rS} {bk : Nat × Nat → Bool} {E : List (Nat × Nat)} {T : List (Nat × Nat × Nat)} {f : Nat → Option Nat} {L : List Nat}
theorem here_le (f : Nat → Option Nat) (c b l : Nat) : hereN f c b l ≤ l := by
  have := List.countP_le_length (p := fun i => decide (f (12 * b + i) = some c)) (l := List.range l)
  rw [List.length_range] at this
  exact this
theorem all_le (f : Nat → Option Nat) (c : Nat) : ∀ B, allN f c B ≤ 12 * B
  | 0 => Nat.le_refl _
  | B + 1 => by
    have := all_le f c B
    have := here_le f c B 12
    rw [allN]
    omega
theorem pl_le (f : Nat → Option Nat) (c B : Nat) : plN f c B ≤ B := by
  have := List.countP_le_length (p := fun b => decide (0 < hereN f c b 12)) (l := List.range B)
  rw [List.length_range] at this
  exact this
theorem here_wl (hv : VB τ) (hok : ∀ x c, f x = some c → okS τ x) {b : Nat} (hb : b < wn τ) (c : Nat) : hereN f c b (wl τ b) = hereN f c b 12 := by
  have lb := (l_ok hv hb).2
  obtain ⟨d, hd⟩ : ∃ d, 12 = wl τ b + d := ⟨12 - wl τ b, by omega⟩
  rw [hd, here_up d (wl τ b) (fun i h1 h2 z => by
    obtain ⟨a, i', x1, x2, x3⟩ := hok _ c z
    have := (l_ok hv x1).2
    by_cases e : a = b
    · subst e; omega
    · omega)]
theorem here_0 (hv : VB τ) (hok : ∀ x c, f x = some c → okS τ x) {b : Nat} (hb : wn τ ≤ b) (c : Nat) : hereN f c b 12 = 0 := by
  have := here_up (f := f) (c := c) (b := b) 12 0 (fun i h1 h2 z => by
    obtain ⟨a, i', x1, x2, x3⟩ := hok _ c z
    have := (l_ok hv x1).2
    omega)
  rw [Nat.zero_add] at this
  rw [this]
  rfl
theorem m_bedloop (hv : VB τ) (hM : MB σ ρ) (ag : agT σ τ) (hn : numF ρ 60 f) (hok : ∀ x c, f x = some c → okS τ x ∧ c < 192) {c : Nat} (hc : c < 192) (w : Int32) : ∃ fu, lX12_bed_66 1000 (nI c) w 0 0 0 ρ = lX12_bed_66 (fu + 1) (nI c) w (nI (plN f c (wn τ))) (nI (allN f c (wn τ))) (nI (wn τ)) ρ := by
  have h16 := hv.2.1
  have y : ∀ b, b < wn τ → ρ.2.2.1 47 b = nI (wl τ b) := fun b hb => by
    obtain ⟨_, _, _, z, _⟩ := hM.2 b (by rw [ag.1]; exact hb)
    rw [z, (ag.2 b hb).2.2.2.1]
  have n2 : ρ.1 43 2 = nI (wn τ) := by rw [hM.1, ag.1]
  have inn : ∀ {k66 : Int32 → Int32 → Int32 → Int32 → Int32 → rS → Option (Int32 × rS)} {b : Nat}, b < wn τ → ∀ (r l fuel p q : Nat), l + r = wl τ b → r < fuel → lX12_bed_81 k66 fuel (nI c) w (nI p) (nI q) (nI b) (nI (hereN f c b l)) (nI l) ρ = k66 (nI c) w (nI (p + if 0 < hereN f c b 12 then 1 else 0)) (nI (q + hereN f c b 12)) (nI (b + 1)) ρ := by
    intro k66 b hb r
    have lb := (l_ok hv hb).2
    induction r with
    | zero =>
      intro l fuel p q hl hfu
      obtain ⟨fu, rfl⟩ : ∃ fu, fuel = fu + 1 := ⟨fuel - 1, by omega⟩
      obtain rfl : l = wl τ b := by omega
      have hle := here_le f c b 12
      rw [lX12_bed_81, kinB (by omega), decide_eq_true (show b < 16 by omega), if_pos rfl, kc (by omega), y b hb, if_pos ((kle (by omega) (by omega)).mpr (Nat.le_refl _)), here_wl hv (fun x c h => (hok x c h).1) hb c, vI_d, kadd]
      unfold jX12_bed_144
      simp only [vI_d, k1]
      by_cases z : 0 < hereN f c b 12
      · have ng : ¬ nI (hereN f c b 12) ≤ 0 := fun w => by
          have := (kle (b := 0) (by omega) (by omega)).mp w
          omega
        rw [if_neg ng, if_pos z]
      · have ps : nI (hereN f c b 12) ≤ 0 := (kle (b := 0) (by omega) (by omega)).mpr (by omega)
        rw [if_pos ps, if_neg z]
        have e1 : nI p + 0 = nI (p + 0) := kadd p 0
        rw [e1]
    | succ r ih =>
      intro l fuel p q hl hfu
      obtain ⟨fu, rfl⟩ : ∃ fu, fuel = fu + 1 := ⟨fuel - 1, by omega⟩
      have it := ih (l + 1) fu p q (by omega) (by omega)
      rw [here_s] at it
      have e1 : (12 : Int32) * nI b + nI l = nI (12 * b + l) := by
        show nI 12 * nI b + nI l = _
        rw [kmul, kadd]
      have X := num_c hn (show 12 * b + l < 192 by omega) hc (fun x d h => (hok x d h).2)
      rw [lX12_bed_81, kinB (by omega), decide_eq_true (show b < 16 by omega), if_pos rfl, kc (by omega), y b hb, if_neg (by rw [kle (by omega) (by omega)]; omega), e1, kinB (by omega), decide_eq_true (show 12 * b + l < 192 by omega), if_pos rfl, kc (by omega)]
      simp only [X]
      unfold jX12_bed_117
      simp only [vI_d, k1]
      by_cases z : f (12 * b + l) = some c
      · rw [if_pos z] at it ⊢
        exact it
      · rw [if_neg z] at it ⊢
        have e2 : nI (hereN f c b l) + 0 = nI (hereN f c b l + 0) := kadd _ 0
        rw [e2]
        exact it
  have out : ∀ (r b fuel : Nat), b + r = wn τ → r < fuel → ∃ fu, lX12_bed_66 fuel (nI c) w (nI (plN f c b)) (nI (allN f c b)) (nI b) ρ = lX12_bed_66 (fu + 1) (nI c) w (nI (plN f c (wn τ))) (nI (allN f c (wn τ))) (nI (wn τ)) ρ := by
    intro r
    induction r with
    | zero =>
      intro b fuel hb hfu
      obtain ⟨fu, rfl⟩ : ∃ fu, fuel = fu + 1 := ⟨fuel - 1, by omega⟩
      obtain rfl : b = wn τ := by omega
      exact ⟨fu, rfl⟩
    | succ r ih =>
      intro b fuel hb hfu
      obtain ⟨fu, rfl⟩ : ∃ fu, fuel = fu + 1 := ⟨fuel - 1, by omega⟩
      have lb := (l_ok hv (show b < wn τ by omega)).2
      obtain ⟨fu2, h2⟩ := ih (b + 1) fu (by omega) (by omega)
      refine ⟨fu2, ?_⟩
      have i1 := inn (k66 := lX12_bed_66 fu) (show b < wn τ by omega) (wl τ b) 0 1000 (plN f c b) (allN f c b) (by omega) (by omega)
      have hz : hereN f c b 0 = 0 := rfl
      rw [hz, show nI 0 = 0 from rfl, ← pl_s] at i1
      rw [lX12_bed_66, n2, if_neg (by rw [kle (by omega) (by omega)]; omega), i1]
      exact h2
  have := out (wn τ) 0 1000 (by omega) (by omega)
  exact this
theorem ok04 {a : Int32} (h : okB 0 4 a = true) : a = 0 ∨ a = 1 ∨ a = 2 ∨ a = 3 ∨ a = 4 := by
  obtain ⟨h1, h2⟩ := okB_t.mp h
  rcases (show a.toInt = 0 ∨ a.toInt = 1 ∨ a.toInt = 2 ∨ a.toInt = 3 ∨ a.toInt = 4 by omega) with z | z | z | z | z
  · exact Or.inl (i_eq z)
  · exact Or.inr (Or.inl (i_eq z))
  · exact Or.inr (Or.inr (Or.inl (i_eq z)))
  · exact Or.inr (Or.inr (Or.inr (Or.inl (i_eq z))))
  · exact Or.inr (Or.inr (Or.inr (Or.inr (i_eq z))))
theorem no04 {a : Int32} (h : okB 0 4 a = false) : ¬ a = 0 ∧ ¬ a = 1 ∧ ¬ a = 2 ∧ ¬ a = 3 ∧ ¬ a = 4 := by
  refine ⟨fun z => ?_, fun z => ?_, fun z => ?_, fun z => ?_, fun z => ?_⟩ <;> subst z <;> exact absurd h (by decide)
theorem PU.ok (h : PU τ bk E T f L) (hv : VB τ) : ∀ x c, f x = some c → okS τ x ∧ c < 192 := fun x c hx => by
  have h1 := h.2.2.1.1 x c hx
  have h2 := h.L192 hv
  exact ⟨h1.1, by omega⟩
theorem s_bed (h : Inv σ) (a w : Int32) : stepB (fL_bed a w) (fX12_bed a w) σ := by
  rcases fresh01 h with ⟨f0, m0⟩ | ⟨f1, m1⟩
  · refine q_no (k := 1) h (by decide) ?_ ?_
    · unfold fL_bed fX11_bed
      rw [c_run0 f0]; rfl
    · unfold fX12_bed jX12_bed_56
      rw [m_old0 m0, Option.bind_some]
      dsimp only
      rw [if_neg (by decide)]
  · obtain ⟨τ, bk, E, T, f, L, q1, q2, q3, q4, q5⟩ := h.2.2 f1
    have l192 := q3.L192 q1
    have h16 := q1.2.1
    have r := c_run1 f1
    have mB := h.2.1.1
    have hok := q3.ok q1
    cases c1 : okN L.length a with
    | false =>
      refine q_no (k := 2) h (by decide) ?_ ?_
      · unfold fL_bed fX11_bed
        rw [r, Option.bind_some]
        dsimp only
        rw [q4.2.2.2.2.2.1, c_idx0 (by omega) σ c1]
        rfl
      · have N := q5.n0 0
        unfold fX12_bed jX12_bed_27 jX12_bed_56
        rw [m_old1 m1, Option.bind_some]
        dsimp only
        rw [if_pos rfl, N.2.2.2.2.1, m_idx (by omega), c1, bI_f, Option.bind_some]
        dsimp only
        rw [if_pos rfl, m_fails1 (uI_eq _ _ _ _) (by decide), Option.bind_some]
        dsimp only
        rw [if_neg (by decide)]
    | true =>
      obtain ⟨ea, la⟩ := okN_i c1
      generalize hk : a.toNatClampNeg = c at la ea
      subst ea
      obtain ⟨s, hs⟩ : ∃ s, L[c]? = some s := ⟨_, List.getElem?_eq_getElem la⟩
      obtain ⟨x1, x2, x3, x4⟩ := q4.2.2.2.2.2.2 c s hs
      have oks := (hok s c (q3.2.2.1.2.2.1 c s hs).1).1
      have s192 := okS_lt q1 oks
      obtain ⟨b, l, hb, hlb, hsb⟩ := oks
      have l12 := (l_ok q1 hb).2
      obtain ⟨mk, y1, y2, y3⟩ := msk_pl x4
      have up : ∀ b', wn τ ≤ b' → b' < wn τ + (16 - wn τ) → hereN f c b' 12 = 0 := fun b' h1 h2 => here_0 q1 (fun x c h => (hok x c h).1) h1 c
      have p16 : plN f c 16 = plN f c (wn τ) := by
        have := pl_up (16 - wn τ) (wn τ) up
        rw [Nat.add_sub_cancel' h16] at this
        exact this
      have a16 : cntF f c = allN f c (wn τ) := by
        have := all_up (16 - wn τ) (wn τ) up
        rw [Nat.add_sub_cancel' h16] at this
        rw [cnt_all, this]
      rw [a16] at x3
      rw [p16] at y3
      have cls : fX11_bed (nI c) w σ = (if w = 0 then some (.ok (wk τ (s / 12) (s % 12)), σ) else if w = 1 then some (.ok (nI (plN f c (wn τ))), σ) else if w = 2 then some (.ok (nI (allN f c (wn τ))), σ) else if w = 3 then some (.ok (nI (s / 12)), σ) else if w = 4 then some (.ok (nI (s % 12)), σ) else some (.error "java/lang/IllegalArgumentException", σ)) := by
        unfold fX11_bed
        rw [r, Option.bind_some]
        dsimp only
        rw [q4.2.2.2.2.2.1, c_idx (by omega) σ c1, Option.bind_some]
        dsimp only
        have mm := km12 (show s < 2147483648 by omega)
        rw [k12 (by omega)] at mm
        simp only [kinB (show c < 2147483648 by omega), decide_eq_true (show c < 192 by omega), if_true, kc (show c < 2147483648 by omega), x1, x2, x3, y1, c_bits y2, gB_p y2, y3, Option.bind_some, k12 (show s < 2147483648 by omega), mm]
      have oo : okB (0 : Int32).toInt (4 : Int32).toInt w = okB 0 4 w := rfl
      have mdl : ∀ ρ : rS, MN ρ τ bk E T f L → MB σ ρ → ρ.1 43 1 = 1 → fX12_bed (nI c) w ρ = (if okB 0 4 w = false then some (0, uI (uI ρ 43 0 0) 43 0 3) else if w = 0 then some (wk τ (s / 12) (s % 12), uI ρ 43 0 0) else if w = 1 then some (nI (plN f c (wn τ)), uI ρ 43 0 0) else if w = 2 then some (nI (allN f c (wn τ)), uI ρ 43 0 0) else if w = 3 then some (nI (s / 12), uI ρ 43 0 0) else some (nI (s % 12), uI ρ 43 0 0)) := fun ρ hM hMB hρ => by
        have N := hM.n0 0
        have mB0 := hMB.n0 0
        obtain ⟨fu, hfu⟩ := m_bedloop q1 mB0 q2 N.2.2.2.1 hok (show c < 192 by omega) w
        have z61 := N.2.2.2.2.2 c s hs
        have n2 : (uI ρ 43 0 0).1 43 2 = nI (wn τ) := by rw [mB0.1, q2.1]
        have z48 : (uI ρ 43 0 0).2.2.1 48 s = wk τ (s / 12) (s % 12) := by
          obtain ⟨_, _, _, _, w5⟩ := mB0.2 b (by rw [q2.1]; exact hb)
          have e := (w5 l (by rw [(q2.2 b hb).2.2.2.1]; exact hlb)).1
          rw [← hsb] at e
          rw [e, show s / 12 = b by omega, show s % 12 = l by omega]
          exact ((q2.2 b hb).2.2.2.2 l hlb).1
        unfold fX12_bed jX12_bed_27 jX12_bed_49 jX12_bed_56
        rw [m_old1 hρ, Option.bind_some]
        dsimp only
        rw [if_pos rfl, N.2.2.2.2.1, m_idx (by omega), c1, bI_t, Option.bind_some]
        dsimp only
        rw [if_neg (by decide), m_fails0 (uI_eq _ _ _ _), Option.bind_some]
        dsimp only
        rw [if_pos rfl, m_from, oo, Option.bind_some]
        simp only [bI_0]
        cases c2 : okB 0 4 w with
        | false =>
          rw [if_pos rfl, if_pos rfl, m_fails1 (uI_eq _ _ _ _) (by decide), Option.bind_some]
          dsimp only
          rw [if_neg (by decide)]
        | true =>
          rw [if_neg (by simp), if_neg (by simp), m_fails0 (uI_eq _ _ _ _), Option.bind_some]
          dsimp only
          rw [if_pos rfl, hfu, lX12_bed_66, n2, if_pos ((kle (by omega) (by omega)).mpr (Nat.le_refl _))]
          unfold jX12_bed_215
          have mm := km12 (show s < 2147483648 by omega)
          rw [k12 (by omega)] at mm
          simp only [kinB (show c < 2147483648 by omega), decide_eq_true (show c < 192 by omega), if_true, kc (show c < 2147483648 by omega), z61, kinB (show s < 2147483648 by omega), decide_eq_true s192, kc (show s < 2147483648 by omega), z48, k12 (show s < 2147483648 by omega), mm]
      cases c2 : okB 0 4 w with
      | false =>
        obtain ⟨n0, n1, n2, n3, n4⟩ := no04 c2
        refine q_no (k := 3) h (by decide) ?_ ?_
        · unfold fL_bed
          rw [cls, if_neg n0, if_neg n1, if_neg n2, if_neg n3, if_neg n4]
          rfl
        · rw [mdl σ q5 mB m1, if_pos c2]
      | true =>
        have fin : ∀ v : Int32, fX11_bed (nI c) w σ = some (.ok v, σ) → (if w = 0 then some (wk τ (s / 12) (s % 12), uI (uO σ 0 v.toInt64) 43 0 0) else if w = 1 then some (nI (plN f c (wn τ)), uI (uO σ 0 v.toInt64) 43 0 0) else if w = 2 then some (nI (allN f c (wn τ)), uI (uO σ 0 v.toInt64) 43 0 0) else if w = 3 then some (nI (s / 12), uI (uO σ 0 v.toInt64) 43 0 0) else some (nI (s % 12), uI (uO σ 0 v.toInt64) 43 0 0)) = some (v, uI (uO σ 0 v.toInt64) 43 0 0) → stepB (fL_bed (nI c) w) (fX12_bed (nI c) w) σ := fun v hv hm => by
          refine q_ok (v := v) h ?_ ?_
          · unfold fL_bed
            rw [hv, Option.bind_some]
            dsimp only
            rw [in01, if_pos rfl, vS_d, cl0]
          · rw [mdl _ (q5.out 0 _) (mB.out 0 _) m1, if_neg (by rw [c2]; simp)]
            exact hm
        rcases ok04 c2 with z | z | z | z | z
        · exact fin _ (by rw [cls, if_pos z]) (by rw [if_pos z])
        · exact fin _ (by rw [cls, if_neg (by rw [z]; decide), if_pos z]) (by rw [if_neg (by rw [z]; decide), if_pos z])
        · exact fin _ (by rw [cls, if_neg (by rw [z]; decide), if_neg (by rw [z]; decide), if_pos z]) (by rw [if_neg (by rw [z]; decide), if_neg (by rw [z]; decide), if_pos z])
        · exact fin _ (by rw [cls, if_neg (by rw [z]; decide), if_neg (by rw [z]; decide), if_neg (by rw [z]; decide), if_pos z]) (by rw [if_neg (by rw [z]; decide), if_neg (by rw [z]; decide), if_neg (by rw [z]; decide), if_pos z])
        · exact fin _ (by rw [cls, if_neg (by rw [z]; decide), if_neg (by rw [z]; decide), if_neg (by rw [z]; decide), if_neg (by rw [z]; decide), if_pos z]) (by rw [if_neg (by rw [z]; decide), if_neg (by rw [z]; decide), if_neg (by rw [z]; decide), if_neg (by rw [z]; decide)])
end Bed
