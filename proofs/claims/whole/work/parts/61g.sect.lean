/-! section, the model, and both. -/
section SectM
variable {σ ρ τ : rS} {bk : Nat × Nat → Bool} {E : List (Nat × Nat)} {T : List (Nat × Nat × Nat)} {f : Nat → Option Nat} {L : List Nat}
theorem sect_loop (hv : VB τ) (hM : MB σ ρ) (ag : agT σ τ) (net : netE (wn τ) (wP τ) E) (hl : E.length ≤ 42) (hN : isN ρ bk E) (hm : matM ρ τ bk E E.length) {a b : Nat} (ha : a < wn τ) (hb : b < wn τ) (hn : nbE bk E a b = true) (k w : Int32) : ∀ (s i j r fuel : Nat) (d : Int32 × Int32 × Bool), (wl τ a - i) + (wl τ b - j) ≤ s → i ≤ wl τ a → j ≤ wl τ b → s + 1 < fuel → syn (ptN τ (nbE bk E) a b) (ptN τ (nbE bk E) b a) i j → lX12_section_78 fuel (nI a) (nI b) k w (nI r) (nI i) (nI j) d.1 d.2.1 (bI d.2.2) ρ = (jX12_section_273 w (pick (rowS (ptN τ (nbE bk E) a b) (ptN τ (nbE bk E) b a) (wl τ a) (wl τ b) s i j) k r d).1 (pick (rowS (ptN τ (nbE bk E) a b) (ptN τ (nbE bk E) b a) (wl τ a) (wl τ b) s i j) k r d).2.1 (bI (!(pick (rowS (ptN τ (nbE bk E) a b) (ptN τ (nbE bk E) b a) (wl τ a) (wl τ b) s i j) k r d).2.2)) ρ) := by
  have h16 := hv.2.1
  have la := (l_ok hv ha).2
  have lb := (l_ok hv hb).2
  have M := pt_mir (bk := bk) hv net a b
  have hn' : nbE bk E b a = true := by rw [nbE_sy]; exact hn
  have ya : ρ.2.2.1 47 a = nI (wl τ a) := by
    obtain ⟨_, _, _, z, _⟩ := hM.2 a (by rw [ag.1]; exact ha)
    rw [z, (ag.2 a ha).2.2.2.1]
  have yb : ρ.2.2.1 47 b = nI (wl τ b) := by
    obtain ⟨_, _, _, z, _⟩ := hM.2 b (by rw [ag.1]; exact hb)
    rw [z, (ag.2 b hb).2.2.2.1]
  have ia : inB (nI a) 16 = true := by rw [kinB (by omega)]; exact decide_eq_true (by omega)
  have ib : inB (nI b) 16 = true := by rw [kinB (by omega)]; exact decide_eq_true (by omega)
  -- both done
  have fin : ∀ (s i j r fu : Nat) (d : Int32 × Int32 × Bool), wl τ a ≤ i → wl τ b ≤ j → i ≤ wl τ a → j ≤ wl τ b → lX12_section_78 (fu + 1) (nI a) (nI b) k w (nI r) (nI i) (nI j) d.1 d.2.1 (bI d.2.2) ρ = (jX12_section_273 w (pick (rowS (ptN τ (nbE bk E) a b) (ptN τ (nbE bk E) b a) (wl τ a) (wl τ b) s i j) k r d).1 (pick (rowS (ptN τ (nbE bk E) a b) (ptN τ (nbE bk E) b a) (wl τ a) (wl τ b) s i j) k r d).2.1 (bI (!(pick (rowS (ptN τ (nbE bk E) a b) (ptN τ (nbE bk E) b a) (wl τ a) (wl τ b) s i j) k r d).2.2)) ρ) := fun s i j r fu d h1 h2 h3 h4 => by
    have nil : rowS (ptN τ (nbE bk E) a b) (ptN τ (nbE bk E) b a) (wl τ a) (wl τ b) s i j = [] := by
      cases s with
      | zero => rfl
      | succ s => rw [rowS, if_neg (by omega), if_neg (by omega), if_neg (by omega)]
    rw [nil, pick, lX12_section_78, ia, if_pos rfl, kc (by omega), ya, if_neg (by rw [klt (by omega) (by omega)]; omega), ib, if_pos rfl, kc (by omega), yb, if_pos ((kle (by omega) (by omega)).mpr h2)]
    simp only [bI_0]
    cases d.2.2 <;> rfl
  intro s
  induction s with
  | zero =>
    intro i j r fuel d hs hi hj hfu hS
    obtain ⟨fu, rfl⟩ : ∃ fu, fuel = fu + 1 := ⟨fuel - 1, by omega⟩
    exact fin 0 i j r fu d (by omega) (by omega) hi hj
  | succ s ih =>
    intro i j r fuel d hs hi hj hfu hS
    obtain ⟨fu, rfl⟩ : ∃ fu, fuel = fu + 1 := ⟨fuel - 1, by omega⟩
    by_cases cD : i < wl τ a ∨ j < wl τ b
    · have ent : lX12_section_78 (fu + 1) (nI a) (nI b) k w (nI r) (nI i) (nI j) d.1 d.2.1 (bI d.2.2) ρ = jX12_section_100 (lX12_section_78 fu) (nI a) (nI b) k w (nI r) (nI i) (nI j) d.1 d.2.1 (bI d.2.2) ρ := by
        rw [lX12_section_78, ia, if_pos rfl, kc (by omega), ya]
        by_cases z : i < wl τ a
        · rw [if_pos ((klt (by omega) (by omega)).mpr z)]
        · rw [if_neg (fun y => z ((klt (by omega) (by omega)).mp y)), ib, if_pos rfl, kc (by omega), yb, if_neg (by rw [kle (by omega) (by omega)]; omega)]
      have pa : i < wl τ a → fX12_matched (nI a) (nI b) (nI i) ρ = some (oI (ptN τ (nbE bk E) a b i), ρ) := fun z => m_matched hv hM ag net hl hN hm ha hb z hn
      have pb : j < wl τ b → fX12_matched (nI b) (nI a) (nI j) ρ = some (oI (ptN τ (nbE bk E) b a j), ρ) := fun z => m_matched hv hM ag net hl hN hm hb ha z hn'
      have oa : (oI (ptN τ (nbE bk E) a b i) = (-1)) = (ptN τ (nbE bk E) a b i = none) := oI_1 (fun m hm => by have := (ptN_lt hm).1; omega)
      have oB' : (oI (ptN τ (nbE bk E) b a j) = (-1)) = (ptN τ (nbE bk E) b a j = none) := oI_1 (fun m hm => by have := (ptN_lt hm).1; omega)
      have qi : (nI (wl τ a) ≤ nI i) = (wl τ a ≤ i) := propext (kle (by omega) (by omega))
      have qj : (nI (wl τ b) ≤ nI j) = (wl τ b ≤ j) := propext (kle (by omega) (by omega))
      have ei : (nI i = nI (wl τ a)) = (i = wl τ a) := propext (keq (by omega) (by omega))
      -- taking a row
      have take : ∀ (x y : Int32) (i' j' : Nat), (if x = -1 then nI i + 0 else nI i + 1) = nI i' → (if y = -1 then nI j + 0 else nI j + 1) = nI j' → (wl τ a - i') + (wl τ b - j') ≤ s → i' ≤ wl τ a → j' ≤ wl τ b → syn (ptN τ (nbE bk E) a b) (ptN τ (nbE bk E) b a) i' j' → jX12_section_205 (lX12_section_78 fu) (nI a) (nI b) k w (nI r) (nI i) (nI j) d.1 d.2.1 (bI d.2.2) x y ρ = (jX12_section_273 w (pick ((x, y) :: rowS (ptN τ (nbE bk E) a b) (ptN τ (nbE bk E) b a) (wl τ a) (wl τ b) s i' j') k r d).1 (pick ((x, y) :: rowS (ptN τ (nbE bk E) a b) (ptN τ (nbE bk E) b a) (wl τ a) (wl τ b) s i' j') k r d).2.1 (bI (!(pick ((x, y) :: rowS (ptN τ (nbE bk E) a b) (ptN τ (nbE bk E) b a) (wl τ a) (wl τ b) s i' j') k r d).2.2)) ρ) := fun x y i' j' h1 h2 h3 h4 h5 h6 => by
        rw [pick]
        have nx : ∀ (d2 : Int32 × Int32 × Bool), jX12_section_224 (lX12_section_78 fu) (nI a) (nI b) k w (nI r) (nI i) (nI j) d2.1 d2.2.1 (bI d2.2.2) x y ρ = lX12_section_78 fu (nI a) (nI b) k w (nI (r + 1)) (nI i') (nI j') d2.1 d2.2.1 (bI d2.2.2) ρ := fun d2 => by
          unfold jX12_section_224 jX12_section_237 jX12_section_253
          simp only [vI_d, k1]
          rw [← h1, ← h2]
          by_cases zx : x = -1
          · rw [if_pos zx, if_pos zx]
            by_cases zy : y = -1
            · rw [if_pos zy, if_pos zy]
            · rw [if_neg zy, if_neg zy, k1]
          · rw [if_neg zx, if_neg zx, k1]
            by_cases zy : y = -1
            · rw [if_pos zy, if_pos zy]
            · rw [if_neg zy, if_neg zy, k1]
        unfold jX12_section_205
        by_cases c : nI r = k
        · rw [if_pos c, if_pos c]
          have := nx (x, y, true)
          rw [bI_t] at this
          rw [this]
          have := ih i' j' (r + 1) fu (x, y, true) h3 h4 h5 (by omega) h6
          rw [bI_t] at this
          exact this
        · rw [if_neg c, if_neg c, nx d]
          exact ih i' j' (r + 1) fu d h3 h4 h5 (by omega) h6
      have z0 : ∀ x : Nat, nI x + 0 = nI x := fun x => kadd x 0
      rw [ent, rowS]
      unfold jX12_section_100 jX12_section_127 jX12_section_128 jX12_section_157 jX12_section_158 jX12_section_170 jX12_section_176 jX12_section_199 jX12_section_203
      simp only [ia, ib, if_true, kc (show a < 2147483648 by omega), kc (show b < 2147483648 by omega), ya, yb, qi, qj, ei, (show ¬ (1 : Int32) = 0 by decide), if_false]
      by_cases cA : i < wl τ a ∧ ptN τ (nbE bk E) a b i = none
      · rw [if_pos cA]
        have main := take (nI i) (-1) (i + 1) j (by rw [if_neg (kne1 (by omega)), k1]) (by rw [if_pos rfl, z0]) (by omega) (by omega) hj (hS.A cA.2 M hj)
        rw [if_neg (show ¬ wl τ a ≤ i by omega), pa cA.1, Option.bind_some]
        dsimp only
        simp only [oa, ya, yb, qi, qj, ei]
        rw [if_pos cA.2]
        by_cases z : wl τ b ≤ j
        · rw [if_pos z]; exact main
        · rw [if_neg z, pb (by omega), Option.bind_some]
          dsimp only
          split <;> exact main
      · rw [if_neg cA]
        by_cases cB : j < wl τ b ∧ ptN τ (nbE bk E) b a j = none
        · rw [if_pos cB]
          have main := take (-1) (nI j) i (j + 1) (by rw [if_pos rfl, z0]) (by rw [if_neg (kne1 (by omega)), k1]) (by omega) hi (by omega) (hS.B cB.2)
          by_cases z : wl τ a ≤ i
          · rw [if_pos z, if_neg (show ¬ wl τ b ≤ j by omega), pb cB.1, Option.bind_some]
            dsimp only
            simp only [oB', ya, yb, qi, qj, ei]
            rw [if_pos cB.2]
            exact main
          · rw [if_neg z, pa (by omega), Option.bind_some]
            dsimp only
            simp only [oa, ya, yb, qi, qj, ei]
            rw [if_neg (fun w => cA ⟨by omega, w⟩), if_neg (show ¬ wl τ b ≤ j by omega), pb cB.1, Option.bind_some]
            dsimp only
            simp only [oB', ya, yb, qi, qj, ei]
            rw [if_pos cB.2]
            exact main
        · rw [if_neg cB]
          obtain ⟨im, jn, hS2⟩ := hS.C M hi hj cD cA cB
          have main := take (nI i) (nI j) (i + 1) (j + 1) (by rw [if_neg (kne1 (by omega)), k1]) (by rw [if_neg (kne1 (by omega)), k1]) (by omega) (by omega) (by omega) hS2
          rw [if_pos (show i < wl τ a ∧ j < wl τ b from ⟨im, jn⟩), if_neg (show ¬ wl τ a ≤ i by omega), pa im, Option.bind_some]
          dsimp only
          simp only [oa, ya, yb, qi, qj, ei]
          rw [if_neg (fun w => cA ⟨im, w⟩), if_neg (show ¬ wl τ b ≤ j by omega), pb jn, Option.bind_some]
          dsimp only
          simp only [oB', ya, yb, qi, qj, ei]
          rw [if_neg (fun w => cB ⟨jn, w⟩), if_neg (show ¬ i = wl τ a by omega)]
          exact main
    · exact fin (s + 1) i j r fu d (by omega) (by omega) hi hj
end SectM
