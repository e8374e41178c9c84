/-! section. -/
def rowS (pA pB : Nat → Option Nat) (m n : Nat) : Nat → Nat → Nat → List (Int32 × Int32)
  | 0, _, _ => []
  | s + 1, i, j => if i < m ∧ pA i = none then (nI i, -1) :: rowS pA pB m n s (i + 1) j else if j < n ∧ pB j = none then (-1, nI j) :: rowS pA pB m n s i (j + 1) else if i < m ∧ j < n then (nI i, nI j) :: rowS pA pB m n s (i + 1) (j + 1) else []
def syn (pA pB : Nat → Option Nat) (i j : Nat) : Prop := (∀ i' j', i' < i → pA i' = some j' → j' < j) ∧ ∀ j' i', j' < j → pB j' = some i' → i' < i
def mir (pA pB : Nat → Option Nat) (m n : Nat) : Prop := (∀ i j, i < m → pA i = some j → j < n ∧ pB j = some i) ∧ (∀ i j, j < n → pB j = some i → i < m ∧ pA i = some j) ∧ ∀ i i' j j', i' < m → i < i' → pA i = some j → pA i' = some j' → j < j'
section Sect
variable {pA pB : Nat → Option Nat} {m n i j : Nat}
theorem syn.A (h : syn pA pB i j) (ha : pA i = none) (hm : mir pA pB m n) (hj : j ≤ n) : syn pA pB (i + 1) j := by
  refine ⟨fun i' j' h1 h2 => ?_, fun j' i' h1 h2 => ?_⟩
  · by_cases z : i' = i
    · rw [z, ha] at h2; cases h2
    · exact h.1 i' j' (by omega) h2
  · have := h.2 j' i' h1 h2
    omega
theorem syn.B (h : syn pA pB i j) (hb : pB j = none) : syn pA pB i (j + 1) := by
  refine ⟨fun i' j' h1 h2 => ?_, fun j' i' h1 h2 => ?_⟩
  · have := h.1 i' j' h1 h2
    omega
  · by_cases z : j' = j
    · rw [z, hb] at h2; cases h2
    · exact h.2 j' i' (by omega) h2
/-- when no layer ends here, the next two are matched with one another -/
theorem syn.C (h : syn pA pB i j) (hm : mir pA pB m n) (hi : i ≤ m) (hj : j ≤ n) (hij : i < m ∨ j < n) (ha : ¬ (i < m ∧ pA i = none)) (hb : ¬ (j < n ∧ pB j = none)) : i < m ∧ j < n ∧ syn pA pB (i + 1) (j + 1) := by
  have im : i < m := by
    by_cases z : i < m
    · exact z
    · exfalso
      have jn : j < n := by omega
      cases hp : pB j with
      | none => exact hb ⟨jn, hp⟩
      | some i' =>
        obtain ⟨a1, a2⟩ := hm.2.1 i' j jn hp
        have := h.1 i' j (by omega) a2
        omega
  cases hp : pA i with
  | none => exact absurd ⟨im, hp⟩ ha
  | some j1 =>
    obtain ⟨b1, b2⟩ := hm.1 i j1 im hp
    have jj : j ≤ j1 := by
      by_cases z : j1 < j
      · have := h.2 j1 i z b2; omega
      · omega
    have jn : j < n := by omega
    cases hq : pB j with
    | none => exact absurd ⟨jn, hq⟩ hb
    | some i1 =>
      obtain ⟨c1, c2⟩ := hm.2.1 i1 j jn hq
      have ii : i ≤ i1 := by
        by_cases z : i1 < i
        · have := h.1 i1 j z c2; omega
        · omega
      have e : i1 = i := by
        by_cases z : i < i1
        · have := hm.2.2 i i1 j1 j c1 z hp c2; omega
        · omega
      subst e
      rw [hp] at c2
      have e2 := Option.some.inj c2
      subst e2
      refine ⟨im, jn, fun i' j' h1 h2 => ?_, fun j' i' h1 h2 => ?_⟩
      · by_cases z : i' = i1
        · rw [z, hp] at h2
          have := Option.some.inj h2
          omega
        · have := h.1 i' j' (by omega) h2
          omega
      · by_cases z : j' = j1
        · rw [z, hq] at h2
          have := Option.some.inj h2
          omega
        · have := h.2 j' i' (by omega) h2
          omega
end Sect
def pick : List (Int32 × Int32) → Int32 → Nat → Int32 × Int32 × Bool → Int32 × Int32 × Bool
  | [], _, _, d => d
  | x :: R, k, r, d => pick R k (r + 1) (if nI r = k then (x.1, x.2, true) else d)
theorem pick_out : ∀ (R : List (Int32 × Int32)) (k : Int32) (r : Nat) (d : Int32 × Int32 × Bool), r + R.length < 2147483648 → (k.toInt < r ∨ (r : Int) + R.length ≤ k.toInt) → pick R k r d = d
  | [], k, r, d, _, _ => rfl
  | x :: R, k, r, d, hb, h => by
    have hl : (x :: R).length = R.length + 1 := rfl
    rw [hl] at hb h
    rw [pick]
    have ne : ¬ nI r = k := fun z => by
      rw [← z, ki (by omega)] at h
      omega
    rw [if_neg ne]
    exact pick_out R k (r + 1) d (by omega) (by omega)
theorem pick_in : ∀ (R : List (Int32 × Int32)) (q r : Nat) (d : Int32 × Int32 × Bool) (x : Int32 × Int32), r + R.length < 2147483648 → R[q]? = some x → pick R (nI (r + q)) r d = (x.1, x.2, true)
  | [], q, r, d, x, _, h => (by simp at h)
  | y :: R, 0, r, d, x, hb, h => by
    obtain rfl : y = x := by simpa using h
    have hl : (y :: R).length = R.length + 1 := rfl
    rw [hl] at hb
    rw [pick, Nat.add_zero, if_pos rfl]
    exact pick_out R (nI r) (r + 1) _ (by omega) (Or.inl (by rw [ki (by omega)]; omega))
  | y :: R, q + 1, r, d, x, hb, h => by
    have hl : (y :: R).length = R.length + 1 := rfl
    rw [hl] at hb
    rw [pick]
    have := pick_in R q (r + 1) (if nI r = nI (r + (q + 1)) then (y.1, y.2, true) else d) x (by omega) (by simpa using h)
    rw [show r + (q + 1) = r + 1 + q by omega]
    rw [show r + (q + 1) = r + 1 + q by omega] at this
    exact this
section SectB
variable {σ ρ τ : rS} {bk : Nat × Nat → Bool} {E : List (Nat × Nat)} {T : List (Nat × Nat × Nat)} {f : Nat → Option Nat} {L : List Nat}
theorem pt_mir (hv : VB τ) (net : netE (wn τ) (wP τ) E) (a b : Nat) : mir (ptN τ (nbE bk E) a b) (ptN τ (nbE bk E) b a) (wl τ a) (wl τ b) := by
  have hsy : ∀ a b, nbE bk E a b = nbE bk E b a := nbE_sy bk E
  have hne : ∀ a, nbE bk E a a = false := nbE_ne net
  refine ⟨fun i j hi h => ⟨(ptN_lt h).1, ptN_sy hsy hne hi h⟩, fun i j hj h => ⟨(ptN_lt h).1, ptN_sy hsy hne hj h⟩, fun i i' j j' hi hii h h' => ?_⟩
  have nb := (ptN_lt h).2
  unfold ptN at h h'
  rw [if_pos nb] at h h'
  by_cases c : a < b
  · rw [if_pos c] at h h'
    exact PN_inc hii h h'
  · rw [if_neg c] at h h'
    obtain ⟨_, x⟩ := QN_lt h
    obtain ⟨_, y⟩ := QN_lt h'
    rcases Nat.lt_trichotomy j j' with z | z | z
    · exact z
    · subst z
      rw [x] at y
      have := Option.some.inj y
      omega
    · have := PN_inc z y x
      omega
/-- the rows drawn so far -/
def rowsC (σ : rS) (R : List (Int32 × Int32)) : Prop := σ.1 18 3 = nI R.length ∧ ∀ k x, R[k]? = some x → σ.2.2.1 20 k = x.1 ∧ σ.2.2.1 21 k = x.2
theorem c_addRow {R : List (Int32 × Int32)} (h : rowsC σ R) (hl : R.length < 24) (x y : Int32) : ∃ υ, fX5_addRow x y σ = some ((), υ) ∧ rowsC υ (R ++ [(x, y)]) ∧ Kp (fun n => n = 18 ∨ n = 20 ∨ n = 21) σ υ := by
  refine ⟨uI (uA (uA σ 20 R.length x) 21 R.length y) 18 3 (nI (R.length + 1)), ?_, ⟨by rw [uI_eq, List.length_append]; rfl, fun k z hk => ?_⟩, ((Kp.uA (by omega)).tr (Kp.uA (by omega))).tr (Kp.uI (by omega))⟩
  · unfold fX5_addRow jX5_addRow_39
    have ng : ¬ (24 : Int32) ≤ nI R.length := fun z => by have := (kle (a := 24) (by omega) (by omega)).mp z; omega
    simp only [h.1, if_neg ng, kinB (show R.length < 2147483648 by omega), decide_eq_true hl, if_true, vS_d, kc (show R.length < 2147483648 by omega), uA_1, k1]
  · rw [uI_2]
    rcases app_get hk with ⟨d1, d2⟩ | ⟨d1, d2⟩
    · rw [uA_ne (by omega), uA_nj (by omega), uA_nj (by omega), uA_ne (by omega)]
      exact h.2 k z d2
    · subst d1 d2
      rw [uA_ne (by omega), uA_eq, uA_eq]
      exact ⟨rfl, rfl⟩
theorem draw_loop {υ : rS} (hv : VB τ) (net : netE (wn τ) (wP τ) E) (hl : E.length ≤ 42) (hE : envC τ υ bk E) {a b : Nat} (ha : a < wn τ) (hb : b < wn τ) : ∀ (s i j fuel : Nat) (σ : rS) (R : List (Int32 × Int32)), s ≤ wl τ a + wl τ b → (wl τ a - i) + (wl τ b - j) ≤ s → i ≤ wl τ a → j ≤ wl τ b → s < fuel → R.length + s ≤ wl τ a + wl τ b → syn (ptN τ (nbE bk E) a b) (ptN τ (nbE bk E) b a) i j → Kp (fun n => n = 18 ∨ n = 20 ∨ n = 21) υ σ → rowsC σ R → ∃ ω, lX5_draw_37 fuel (nI a) (nI b) (nI i) (nI j) (nI (wl τ a)) (nI (wl τ b)) (nI (wl τ a + wl τ b - s)) σ = some ((), ω) ∧ Kp (fun n => n = 18 ∨ n = 20 ∨ n = 21) υ ω ∧ rowsC ω (R ++ rowS (ptN τ (nbE bk E) a b) (ptN τ (nbE bk E) b a) (wl τ a) (wl τ b) s i j) := by
  have h16 := hv.2.1
  have la := (l_ok hv ha).2
  have lb := (l_ok hv hb).2
  have M := pt_mir (bk := bk) hv net a b
  have M2 := pt_mir (bk := bk) hv net b a
  intro s
  induction s with
  | zero =>
    intro i j fuel σ R hs hij hi hj hfu hR hS hkp hr
    obtain ⟨fu, rfl⟩ : ∃ fu, fuel = fu + 1 := ⟨fuel - 1, by omega⟩
    refine ⟨σ, ?_, hkp, by rw [rowS, List.append_nil]; exact hr⟩
    rw [lX5_draw_37, kadd, if_pos ((kle (by omega) (by omega)).mpr (by omega))]
  | succ s ih =>
    intro i j fuel σ R hs hij hi hj hfu hR hS hkp hr
    obtain ⟨fu, rfl⟩ : ∃ fu, fuel = fu + 1 := ⟨fuel - 1, by omega⟩
    have hEσ : envC τ σ bk E := ⟨fun x y hx hy => by rw [(hkp.1 16 (by omega)).2.2]; exact hE.1 x y hx hy, matC.kp (fun n hn => hkp.1 n (by omega)) hE.2⟩
    have st : nI (wl τ a + wl τ b - (s + 1)) + 1 = nI (wl τ a + wl τ b - s) := by
      rw [k1]
      congr 1
      omega
    have qi : (nI (wl τ a) ≤ nI i) = (wl τ a ≤ i) := propext (kle (by omega) (by omega))
    have qj : (nI (wl τ b) ≤ nI j) = (wl τ b ≤ j) := propext (kle (by omega) (by omega))
    have pa : i < wl τ a → fX5_partner (nI a) (nI b) (nI i) σ = some (oI (ptN τ (nbE bk E) a b i), σ) := fun hi2 => c_partner hv hEσ.1 net hl hEσ.2 (by omega) (by omega) hi2 la
    have pb : j < wl τ b → fX5_partner (nI b) (nI a) (nI j) σ = some (oI (ptN τ (nbE bk E) b a j), σ) := fun hj2 => c_partner hv hEσ.1 net hl hEσ.2 (by omega) (by omega) hj2 lb
    have oa : (oI (ptN τ (nbE bk E) a b i) = (-1)) = (ptN τ (nbE bk E) a b i = none) := oI_1 (fun m hm => by have := (ptN_lt hm).1; omega)
    have oB' : (oI (ptN τ (nbE bk E) b a j) = (-1)) = (ptN τ (nbE bk E) b a j = none) := oI_1 (fun m hm => by have := (ptN_lt hm).1; omega)
    rw [rowS]
    rw [lX5_draw_37, kadd, if_neg (by rw [kle (by omega) (by omega)]; omega)]
    unfold jX5_draw_81 jX5_draw_115 jX5_draw_143
    simp only [qi, qj, vI_d, st, k1]
    -- adding a row and going on
    have go : ∀ (x y : Int32) (i' j' : Nat), (wl τ a - i') + (wl τ b - j') ≤ s → i' ≤ wl τ a → j' ≤ wl τ b → syn (ptN τ (nbE bk E) a b) (ptN τ (nbE bk E) b a) i' j' → ∃ ω, ((fX5_addRow x y σ).bind fun q => lX5_draw_37 fu (nI a) (nI b) (nI i') (nI j') (nI (wl τ a)) (nI (wl τ b)) (nI (wl τ a + wl τ b - s)) q.2) = some ((), ω) ∧ Kp (fun n => n = 18 ∨ n = 20 ∨ n = 21) υ ω ∧ rowsC ω (R ++ (x, y) :: rowS (ptN τ (nbE bk E) a b) (ptN τ (nbE bk E) b a) (wl τ a) (wl τ b) s i' j') := fun x y i' j' h1 h2 h3 h4 => by
      obtain ⟨ν, t1, t2, t3⟩ := c_addRow hr (by omega) x y
      obtain ⟨ω, u1, u2, u3⟩ := ih i' j' fu ν (R ++ [(x, y)]) (by omega) h1 h2 h3 (by omega) (by rw [List.length_append]; show R.length + 1 + s ≤ _; omega) h4 (hkp.tr t3) t2
      refine ⟨ω, ?_, u2, by rw [List.append_assoc] at u3; exact u3⟩
      rw [t1, Option.bind_some]
      exact u1
    by_cases cA : i < wl τ a ∧ ptN τ (nbE bk E) a b i = none
    · rw [if_pos cA, if_neg (by omega), pa cA.1, Option.bind_some]
      dsimp only
      simp only [oa]
      rw [if_pos cA.2]
      exact go (nI i) (-1) (i + 1) j (by omega) (by omega) hj (hS.A cA.2 M hj)
    · rw [if_neg cA]
      by_cases cB : j < wl τ b ∧ ptN τ (nbE bk E) b a j = none
      · rw [if_pos cB]
        have main := go (-1) (nI j) i (j + 1) (by omega) hi (by omega) (hS.B cB.2)
        by_cases z : wl τ a ≤ i
        · rw [if_pos z, if_neg (by omega), pb cB.1, Option.bind_some]
          dsimp only
          simp only [oB']
          rw [if_pos cB.2]
          exact main
        · rw [if_neg z, pa (by omega), Option.bind_some]
          dsimp only
          simp only [oa]
          rw [if_neg (fun w => cA ⟨by omega, w⟩), if_neg (by omega), pb cB.1, Option.bind_some]
          dsimp only
          simp only [oB']
          rw [if_pos cB.2]
          exact main
      · rw [if_neg cB]
        by_cases cD : i < wl τ a ∨ j < wl τ b
        · obtain ⟨im, jn, hS2⟩ := hS.C M hi hj cD cA cB
          have main := go (nI i) (nI j) (i + 1) (j + 1) (by omega) (by omega) (by omega) hS2
          rw [if_pos (show i < wl τ a ∧ j < wl τ b from ⟨im, jn⟩), if_neg (show ¬ wl τ a ≤ i by omega), pa im, Option.bind_some]
          dsimp only
          simp only [oa]
          rw [if_neg (fun w => cA ⟨im, w⟩), if_neg (show ¬ wl τ b ≤ j by omega), pb jn, Option.bind_some]
          dsimp only
          simp only [oB']
          rw [if_neg (fun w => cB ⟨jn, w⟩), if_neg (show ¬ wl τ a ≤ i by omega), if_neg (show ¬ wl τ b ≤ j by omega)]
          exact main
        · rw [if_neg (show ¬ (i < wl τ a ∧ j < wl τ b) by omega), if_pos (show wl τ a ≤ i by omega), if_pos (show wl τ b ≤ j by omega)]
          try rw [if_pos (show wl τ a ≤ i by omega)]
          have nil : ∀ s', rowS (ptN τ (nbE bk E) a b) (ptN τ (nbE bk E) b a) (wl τ a) (wl τ b) s' i j = [] := fun s' => by
            cases s' with
            | zero => rfl
            | succ s' => rw [rowS, if_neg cA, if_neg cB, if_neg (by omega)]
          obtain ⟨ω, u1, u2, u3⟩ := ih i j fu σ R (by omega) (by omega) hi hj (by omega) (by omega) hS hkp hr
          rw [nil s] at u3
          exact ⟨ω, u1, u2, u3⟩
end SectB
