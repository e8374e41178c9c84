/-! THE MODEL CHECKS A TEXT: borings. -/
/-- the store with one more boring in work -/
def nBr (σ : rS) (n : Nat) (x y t : Int32) : rS := uA (uA (uA (uA σ 68 n x) 69 n y) 70 n t) 71 n 0
theorem nBr_ck {σ : rS} {n : Nat} {x y t : Int32} : Ck σ (nBr σ n x y t) := (((Ck.uA (by omega)).tr (Ck.uA (by omega))).tr (Ck.uA (by omega))).tr (Ck.uA (by omega))
theorem nBr_M {σ : rS} {n : Nat} {x y t : Int32} : BorM (nBr σ n x y t) n (x, y, t, []) := by
  unfold nBr
  refine ⟨?_, ?_, ?_, ?_, Nat.zero_le _, fun i p hp => by cases hp⟩
  · rw [uA_ne (by omega), uA_ne (by omega), uA_ne (by omega), uA_eq]
  · rw [uA_ne (by omega), uA_ne (by omega), uA_eq]
  · rw [uA_ne (by omega), uA_eq]
  · rw [uA_eq]; rfl
theorem nBr_o {σ : rS} {n j : Nat} {b : tB} {x y t : Int32} (h : BorM σ j b) (hj : j < n) : BorM (nBr σ n x y t) j b := by
  obtain ⟨h1, h2, h3, h4, h5, h6⟩ := h
  unfold nBr
  refine ⟨?_, ?_, ?_, ?_, h5, fun i p hp => ?_⟩
  · rw [uA_ne (by omega), uA_ne (by omega), uA_ne (by omega), uA_nj (by omega)]; exact h1
  · rw [uA_ne (by omega), uA_ne (by omega), uA_nj (by omega), uA_ne (by omega)]; exact h2
  · rw [uA_ne (by omega), uA_nj (by omega), uA_ne (by omega), uA_ne (by omega)]; exact h3
  · rw [uA_nj (by omega), uA_ne (by omega), uA_ne (by omega), uA_ne (by omega)]; exact h4
  · have a := h6 i p hp
    refine ⟨Eq.trans ?_ a.1, Eq.trans ?_ a.2⟩
    · rw [uA_ne (by omega), uA_ne (by omega), uA_ne (by omega), uA_ne (by omega)]
    · rw [uA_ne (by omega), uA_ne (by omega), uA_ne (by omega), uA_ne (by omega)]
section Chb
variable {u : Nat → Int32} {L c : Nat} {S T : Nat → Nat} {τ υ : rS}
theorem m_fin (h : WD u L c S T) (m : Mw υ c S T) {s : Int32} (fu : Nat) {σ : rS} (hs : ¬ s = 0) (k : Ck υ σ) : lX12_check_9 (fu + 1) s (nI c) σ = some (nI c, σ) := by
  have hL := h.1
  have cL := h.2.1.1
  rw [lX12_check_9, (k.W m).1, if_pos (by rw [kle (by omega) (by omega)]; omega), if_neg hs]
  rfl
theorem numR_c {lo hh : Int32} {i : Nat} (hi : i = c) : numR u c S T lo hh i = none := by
  cases e : numR u c S T lo hh i with
  | none => rfl
  | some v => have := (numR_ok e).1; omega
theorem m_s0 (h : WD u L c S T) (t : Tq u L υ) (m : Mw υ c S T) (hM : MB τ υ) {B : List tB} (h16 : wn τ + B.length ≤ 16) {i : Nat} (hi : i < c) {σ : rS} (k : Ck υ σ) (M : Msg σ B) (fu : Nat) : lX12_check_9 (fu + 1) 0 (nI i) σ = if isLW u c S T i 98 = true ∧ wn τ + B.length < 16 then lX12_check_9 fu 1 (nI (i + 1)) σ else some (nI i, σ) := by
  have hL := h.1
  have cL := h.2.1.1
  have e5 : nI i + 1 = nI (i + 1) := kadd _ 1
  rw [lX12_check_9, (k.W m).1, if_neg (by rw [kle (by omega) (by omega)]; omega), if_pos rfl, m_isWord h (k.T t) (k.W m) hi, Option.bind_some]
  dsimp only
  unfold jX12_check_51 jX12_check_52
  rw [m_347o, m_347g _ _ _ (by decide) (w := 1) (by decide), (k.B hM).1, M.1, kadd, e5]
  cases isLW u c S T i 98 with
  | false => rw [if_pos (show bI false = 0 from rfl), if_neg (fun z => by simp at z)]
  | true =>
    rw [if_neg (show ¬ bI true = 0 by decide)]
    by_cases f : wn τ + B.length < 16
    · rw [if_neg (by show ¬ nI 16 ≤ nI _; rw [kle (by omega) (by omega)]; omega), if_pos ⟨rfl, f⟩]
    · rw [if_pos (by show nI 16 ≤ nI _; rw [kle (by omega) (by omega)]; omega), if_neg (fun z => f z.2)]
theorem m_s1 (h : WD u L c S T) (t : Tq u L υ) (m : Mw υ c S T) {i : Nat} (hi : i < c) {σ : rS} (k : Ck υ σ) (fu : Nat) : ∃ w, (lX12_check_9 (fu + 1) 1 (nI i) σ = if (numR u c S T (-1000) 1000 i).isSome = true then lX12_check_9 fu 2 (nI (i + 1)) (uA σ 66 i w) else some (nI i, uA σ 66 i w)) ∧ ∀ v, numR u c S T (-1000) 1000 i = some v → w = v := by
  have hL := h.1
  have cL := h.2.1.1
  have e5 : nI i + 1 = nI (i + 1) := kadd _ 1
  obtain ⟨w, a1, a2⟩ := m_isNum h (k.T t) (k.W m) hi (-1000) 1000
  refine ⟨w, ?_, a2⟩
  rw [lX12_check_9, (k.W m).1, if_neg (by rw [kle (by omega) (by omega)]; omega), if_neg (by decide), if_pos rfl, a1, Option.bind_some]
  dsimp only
  rw [vI_d]
  cases (numR u c S T (-1000) 1000 i).isSome with
  | false => rw [if_neg (by simp)]; exact m_347o _ _ _ _
  | true => rw [if_pos rfl, m_347g _ _ _ (show ¬ bI true = 0 by decide) (w := 2) (by decide), e5]
theorem m_s2 (h : WD u L c S T) (t : Tq u L υ) (m : Mw υ c S T) (hM : MB τ υ) {B : List tB} (h16 : wn τ + B.length ≤ 16) {i : Nat} (hi : i + 1 < c) {σ : rS} (k : Ck υ σ) (M : Msg σ B) {x : Int32} (hx : σ.2.2.1 66 i = x) (fu : Nat) : ∃ w, (lX12_check_9 (fu + 1) 2 (nI (i + 1)) σ = if (numR u c S T (-1000) 1000 (i + 1)).isSome = true ∧ tk τ B x w = false then lX12_check_9 fu 3 (nI (i + 2)) (uA σ 66 (i + 1) w) else some (nI (i + 1), uA σ 66 (i + 1) w)) ∧ ∀ v, numR u c S T (-1000) 1000 (i + 1) = some v → w = v := by
  have hL := h.1
  have cL := h.2.1.1
  have e5 : nI (i + 1) + 1 = nI (i + 2) := kadd _ 1
  have em : nI (i + 1) - 1 = nI i := ksub (b := 1) (by omega)
  obtain ⟨w, a1, a2⟩ := m_isNum h (k.T t) (k.W m) hi (-1000) 1000
  have k1 : Ck υ (uA σ 66 (i + 1) w) := k.tr (Ck.uA (by omega))
  have w1 : (uA σ 66 (i + 1) w).2.2.1 66 i = x := by rw [uA_nj (by omega)]; exact hx
  have w2 : (uA σ 66 (i + 1) w).2.2.1 66 (i + 1) = w := uA_eq _ _ _ _
  have nw := m_new (k1.B hM) (by omega) (M.k66 (k := i + 1) (v := w)) (by omega) x w
  refine ⟨w, ?_, a2⟩
  rw [lX12_check_9, (k.W m).1, if_neg (by rw [kle (by omega) (by omega)]; omega), if_neg (by decide), if_neg (by decide), if_pos rfl, a1, Option.bind_some]
  dsimp only
  unfold jX12_check_120 jX12_check_121
  rw [em, kinB (by omega), decide_eq_true (by omega), if_pos rfl, kinB (by omega), decide_eq_true (by omega), if_pos rfl, kc (by omega), kc (by omega), w1, w2, nw, Option.bind_some]
  dsimp only
  rw [m_347o, m_347g _ _ _ (by decide) (w := 3) (by decide), e5]
  cases (numR u c S T (-1000) 1000 (i + 1)).isSome with
  | false => rw [if_pos (show bI false = 0 from rfl), if_neg (fun z => by simp at z)]
  | true =>
    rw [if_neg (show ¬ bI true = 0 by decide)]
    cases tk τ B x w with
    | true => rw [if_pos (show bI (!true) = 0 from rfl), if_neg (fun z => by simp at z)]
    | false => rw [if_neg (show ¬ bI (!false) = 0 by decide), if_pos ⟨rfl, rfl⟩]
theorem m_s3 (h : WD u L c S T) (t : Tq u L υ) (m : Mw υ c S T) {B : List tB} (h16 : B.length < 16) {i : Nat} (hi : i + 2 < c) {σ : rS} (k : Ck υ σ) (M : Msg σ B) {x y : Int32} (hx : σ.2.2.1 66 i = x) (hy : σ.2.2.1 66 (i + 1) = y) (fu : Nat) : ∃ w, (lX12_check_9 (fu + 1) 3 (nI (i + 2)) σ = if (numR u c S T (-100000) 100000 (i + 2)).isSome = true then lX12_check_9 fu 4 (nI (i + 3)) (nBr (uA σ 66 (i + 2) w) B.length x y w) else some (nI (i + 2), nBr (uA σ 66 (i + 2) w) B.length x y w)) ∧ ∀ v, numR u c S T (-100000) 100000 (i + 2) = some v → w = v := by
  have hL := h.1
  have cL := h.2.1.1
  have e5 : nI (i + 2) + 1 = nI (i + 3) := kadd _ 1
  have em : nI (i + 2) - 1 = nI (i + 1) := ksub (b := 1) (by omega)
  have em2 : nI (i + 2) - 2 = nI i := ksub (b := 2) (by omega)
  obtain ⟨w, a1, a2⟩ := m_isNum h (k.T t) (k.W m) hi (-100000) 100000
  have w1 : (uA σ 66 (i + 2) w).2.2.1 66 i = x := by rw [uA_nj (by omega)]; exact hx
  have w2 : (uA σ 66 (i + 2) w).2.2.1 66 (i + 1) = y := by rw [uA_nj (by omega)]; exact hy
  have w3 : (uA σ 66 (i + 2) w).2.2.1 66 (i + 2) = w := uA_eq _ _ _ _
  have M1 := (M.k66 (k := i + 2) (v := w)).1
  refine ⟨w, ?_, a2⟩
  rw [lX12_check_9, (k.W m).1, if_neg (by rw [kle (by omega) (by omega)]; omega), if_neg (by decide), if_neg (by decide), if_neg (by decide), if_pos rfl, a1, Option.bind_some]
  dsimp only
  generalize uA σ 66 (i + 2) w = ρ at w1 w2 w3 M1
  rw [vI_d, em2, em, kinB (by omega), decide_eq_true (by omega), if_pos rfl, M1, kinB (by omega), decide_eq_true (by omega), if_pos rfl, vS_d, kc (by omega), kc (by omega), w1]
  rw [kinB (by omega), decide_eq_true (by omega), if_pos rfl, uA_1, M1, kinB (by omega), decide_eq_true (by omega), if_pos rfl, vS_d, kc (by omega), kc (by omega), uA_ne (by omega), w2]
  rw [kinB (by omega), decide_eq_true (by omega), if_pos rfl, uA_1, uA_1, M1, kinB (by omega), decide_eq_true (by omega), if_pos rfl, vS_d, kc (by omega), kc (by omega), uA_ne (by omega), uA_ne (by omega), w3]
  rw [uA_1, uA_1, uA_1, M1, kinB (by omega), decide_eq_true (by omega), if_pos rfl, vS_d, kc (by omega)]
  show jX12_check_347 (lX12_check_9 fu) 3 (nI (i + 2)) _ (nBr ρ B.length x y w) = _
  cases (numR u c S T (-100000) 100000 (i + 2)).isSome with
  | false => rw [if_neg (by simp)]; exact m_347o _ _ _ _
  | true => rw [if_pos rfl, m_347g _ _ _ (show ¬ bI true = 0 by decide) (w := 4) (by decide), e5]
theorem m_bor (h : WD u L c S T) (t : Tq u L υ) (m : Mw υ c S T) (hM : MB τ υ) {B : List tB} (h16 : wn τ + B.length ≤ 16) {i fuel : Nat} (hi : i < c) (hf : c - i < fuel) {σ : rS} (k : Ck υ σ) (M : Msg σ B) :
    (∀ b, borS u c S T τ B i = .error b → ∃ σ', lX12_check_9 fuel 0 (nI i) σ = some (nI b, σ') ∧ Ck υ σ') ∧
    (∀ q, borS u c S T τ B i = .ok q → ∃ σ' f', lX12_check_9 fuel 0 (nI i) σ = lX12_check_9 f' 0 (nI q.1) σ' ∧ c - q.1 < f' ∧ Ck υ σ' ∧ Msg σ' (B ++ [q.2])) := by
  obtain ⟨f0, rfl⟩ : ∃ f0, fuel = f0 + 1 := ⟨fuel - 1, by omega⟩
  have X0 := m_s0 h t m hM h16 hi k M f0
  unfold borS
  by_cases z : isLW u c S T i 98 = true ∧ wn τ + B.length < 16
  · rw [if_pos z] at X0 ⊢
    rw [X0]
    obtain ⟨f1, rfl⟩ : ∃ f1, f0 = f1 + 1 := ⟨f0 - 1, by omega⟩
    by_cases c1 : i + 1 = c
    · rw [numR_c c1]
      refine ⟨fun b hb => ?_, fun q hq => by cases hq⟩
      cases hb
      rw [c1]
      exact ⟨σ, m_fin h m f1 (by decide) k, k⟩
    obtain ⟨x, X1, x1⟩ := m_s1 h t m (i := i + 1) (by omega) k f1
    have k1 : Ck υ (uA σ 66 (i + 1) x) := k.tr (Ck.uA (by omega))
    rw [X1]
    cases y1 : numR u c S T (-1000) 1000 (i + 1) with
    | none =>
      rw [if_neg (by simp)]
      refine ⟨fun b hb => ?_, fun q hq => by cases hq⟩
      cases hb
      exact ⟨_, rfl, k1⟩
    | some x' =>
      have ex := x1 x' y1
      subst ex
      rw [if_pos (show (some x).isSome = true from rfl)]
      dsimp only
      obtain ⟨f2, rfl⟩ : ∃ f2, f1 = f2 + 1 := ⟨f1 - 1, by omega⟩
      by_cases c2 : i + 2 = c
      · rw [numR_c c2]
        refine ⟨fun b hb => ?_, fun q hq => by cases hq⟩
        cases hb
        rw [show i + 1 + 1 = c from c2]
        exact ⟨_, m_fin h m f2 (by decide) k1, k1⟩
      obtain ⟨y, X2, x2⟩ := m_s2 h t m hM h16 (i := i + 1) (by omega) k1 M.k66 (uA_eq _ _ _ _) f2
      have k2 : Ck υ (uA (uA σ 66 (i + 1) x) 66 (i + 1 + 1) y) := k1.tr (Ck.uA (by omega))
      have X2 : lX12_check_9 (f2 + 1) 2 (nI (i + 1 + 1)) (uA σ 66 (i + 1) x) = if (numR u c S T (-1000) 1000 (i + 2)).isSome = true ∧ tk τ B x y = false then lX12_check_9 f2 3 (nI (i + 3)) (uA (uA σ 66 (i + 1) x) 66 (i + 1 + 1) y) else some (nI (i + 2), uA (uA σ 66 (i + 1) x) 66 (i + 1 + 1) y) := X2
      have x2 : ∀ v, numR u c S T (-1000) 1000 (i + 2) = some v → y = v := x2
      rw [X2]
      cases y2 : numR u c S T (-1000) 1000 (i + 2) with
      | none =>
        rw [if_neg (show ¬ ((none : Option Int32).isSome = true ∧ tk τ B x y = false) from fun q => by have := q.1; simp at this)]
        refine ⟨fun b hb => ?_, fun q hq => by cases hq⟩
        cases hb
        exact ⟨_, rfl, k2⟩
      | some y' =>
        have ey := x2 y' y2
        subst ey
        dsimp only
        cases tt : tk τ B x y with
        | true =>
          rw [if_pos rfl, if_neg (show ¬ ((some y).isSome = true ∧ true = false) from fun q => by have := q.2; simp at this)]
          refine ⟨fun b hb => ?_, fun q hq => by cases hq⟩
          cases hb
          exact ⟨_, rfl, k2⟩
        | false =>
          rw [if_pos (show (some y).isSome = true ∧ false = false from ⟨rfl, rfl⟩), if_neg (show ¬ false = true by simp)]
          obtain ⟨f3, rfl⟩ : ∃ f3, f2 = f3 + 1 := ⟨f2 - 1, by omega⟩
          by_cases c3 : i + 3 = c
          · rw [numR_c c3]
            refine ⟨fun b hb => ?_, fun q hq => by cases hq⟩
            cases hb
            rw [c3]
            exact ⟨_, m_fin h m f3 (by decide) k2, k2⟩
          obtain ⟨w, X3, x3⟩ := m_s3 h t m (B := B) (by omega) (i := i + 1) (by omega) k2 (M.k66.k66) (x := x) (y := y) (by rw [uA_nj (by omega), uA_eq]) (uA_eq _ _ _ _) f3
          have k3 : Ck υ (nBr (uA (uA (uA σ 66 (i + 1) x) 66 (i + 1 + 1) y) 66 (i + 1 + 2) w) B.length x y w) := (k2.tr (Ck.uA (by omega))).tr nBr_ck
          have M3 : Msg (nBr (uA (uA (uA σ 66 (i + 1) x) 66 (i + 1 + 1) y) 66 (i + 1 + 2) w) B.length x y w) B := ⟨M.1, fun j b hb => nBr_o (M.k66.k66.k66.2 j b hb) (List.getElem?_eq_some_iff.mp hb).1⟩
          have N3 : BorM (nBr (uA (uA (uA σ 66 (i + 1) x) 66 (i + 1 + 1) y) 66 (i + 1 + 2) w) B.length x y w) B.length (x, y, w, []) := nBr_M
          generalize nBr (uA (uA (uA σ 66 (i + 1) x) 66 (i + 1 + 1) y) 66 (i + 1 + 2) w) B.length x y w = ρ at k3 M3 N3 X3
          have X3 : lX12_check_9 (f3 + 1) 3 (nI (i + 3)) (uA (uA σ 66 (i + 1) x) 66 (i + 1 + 1) y) = if (numR u c S T (-100000) 100000 (i + 3)).isSome = true then lX12_check_9 f3 4 (nI (i + 4)) ρ else some (nI (i + 3), ρ) := X3
          have x3 : ∀ v, numR u c S T (-100000) 100000 (i + 3) = some v → w = v := x3
          rw [X3]
          cases y3 : numR u c S T (-100000) 100000 (i + 3) with
          | none =>
            rw [if_neg (by simp)]
            refine ⟨fun b hb => ?_, fun q hq => by cases hq⟩
            cases hb
            exact ⟨_, rfl, k3⟩
          | some w' =>
            have ew := x3 w' y3
            subst ew
            rw [if_pos (show (some w).isSome = true from rfl)]
            dsimp only
            obtain ⟨g1, g2⟩ := m_lays h t m (B := B) (by omega) 12 (i + 4) 0 f3 ρ [] (by omega) rfl (by omega) (by omega) k3 M3 N3
            cases ww : lays u c S T 12 (i + 4) with
            | error b0 =>
              refine ⟨fun b hb => ?_, fun q hq => by cases hq⟩
              cases hb
              exact g1 b0 ww
            | ok q0 =>
              refine ⟨fun b hb => (by cases hb), fun q hq => ?_⟩
              cases hq
              exact g2 q0 ww
  · rw [if_neg z] at X0 ⊢
    refine ⟨fun b hb => ?_, fun q hq => by cases hq⟩
    cases hb
    exact ⟨σ, X0, k⟩
theorem lays_le : ∀ {r i : Nat} {q : Nat × List (Int32 × Int32)}, lays u c S T r i = .ok q → q.1 ≤ c := by
  intro r
  induction r with
  | zero =>
    intro i q h
    rw [lays] at h
    by_cases z : isLW u c S T i 101 = true
    · rw [if_pos z] at h; cases h; exact isLW_lt z
    · rw [if_neg z] at h; cases h
  | succ r ih =>
    intro i q h
    rw [lays] at h
    by_cases z : isLW u c S T i 101 = true
    · rw [if_pos z] at h; cases h; exact isLW_lt z
    · rw [if_neg z] at h
      cases y1 : numR u c S T 0 7 i with
      | none => rw [y1] at h; cases h
      | some k =>
        rw [y1] at h
        dsimp only at h
        cases y2 : numR u c S T 1 10000 (i + 1) with
        | none => rw [y2] at h; cases h
        | some v =>
          rw [y2] at h
          dsimp only at h
          cases y3 : lays u c S T r (i + 2) with
          | error b => rw [y3] at h; cases h
          | ok q0 => rw [y3] at h; cases h; exact ih (q := q0) y3
theorem borS_le {B : List tB} {i : Nat} {q : Nat × tB} (h : borS u c S T τ B i = .ok q) : q.1 ≤ c ∧ wn τ + B.length < 16 := by
  unfold borS at h
  by_cases z : isLW u c S T i 98 = true ∧ wn τ + B.length < 16
  · rw [if_pos z] at h
    refine ⟨?_, z.2⟩
    cases y1 : numR u c S T (-1000) 1000 (i + 1) with
    | none => rw [y1] at h; cases h
    | some x =>
      rw [y1] at h
      dsimp only at h
      cases y2 : numR u c S T (-1000) 1000 (i + 2) with
      | none => rw [y2] at h; cases h
      | some y =>
        rw [y2] at h
        dsimp only at h
        by_cases w : tk τ B x y = true
        · rw [if_pos w] at h; cases h
        · rw [if_neg w] at h
          cases y3 : numR u c S T (-100000) 100000 (i + 3) with
          | none => rw [y3] at h; cases h
          | some t =>
            rw [y3] at h
            dsimp only at h
            cases y4 : lays u c S T 12 (i + 4) with
            | error b => rw [y4] at h; cases h
            | ok q0 => rw [y4] at h; cases h; exact lays_le (q := q0) y4
  · rw [if_neg z] at h; cases h
theorem m_allB (h : WD u L c S T) (t : Tq u L υ) (m : Mw υ c S T) (hM : MB τ υ) : ∀ (r i fuel : Nat) (σ : rS) (B : List tB), B.length + r = 17 → wn τ + B.length ≤ 16 → i ≤ c → c - i < fuel → Ck υ σ → Msg σ B →
    (∀ b, allS u c S T τ r i B = .error b → ∃ σ', lX12_check_9 fuel 0 (nI i) σ = some (nI b, σ') ∧ Ck υ σ') ∧
    (∀ B', allS u c S T τ r i B = .ok B' → ∃ σ', lX12_check_9 fuel 0 (nI i) σ = some ((-1), σ') ∧ Ck υ σ' ∧ Msg σ' B') := by
  have hL := h.1
  have cL := h.2.1.1
  intro r
  induction r with
  | zero => intro i fuel σ B hr h16; omega
  | succ r ih =>
    intro i fuel σ B hr h16 hi hf k M
    rw [allS]
    by_cases z : c ≤ i
    · have e : i = c := by omega
      subst e
      rw [if_pos z]
      obtain ⟨fu, rfl⟩ : ∃ fu, fuel = fu + 1 := ⟨fuel - 1, by omega⟩
      refine ⟨fun b hb => (by cases hb), fun B' hq => ?_⟩
      cases hq
      refine ⟨σ, ?_, k, M⟩
      rw [lX12_check_9, (k.W m).1, if_pos (by rw [kle (by omega) (by omega)]; omega), if_pos rfl]
      rfl
    · rw [if_neg z]
      obtain ⟨g1, g2⟩ := m_bor h t m hM h16 (fuel := fuel) (by omega) hf k M
      cases y : borS u c S T τ B i with
      | error b0 =>
        refine ⟨fun b hb => ?_, fun q hq => by cases hq⟩
        cases hb
        exact g1 b0 y
      | ok q0 =>
        obtain ⟨σ', f', x1, x2, x3, x4⟩ := g2 q0 y
        obtain ⟨l1, l2⟩ := borS_le y
        have l3 : (B ++ [q0.2]).length = B.length + 1 := by rw [List.length_append]; rfl
        rw [x1]
        exact ih q0.1 f' σ' (B ++ [q0.2]) (by omega) (by omega) l1 x2 x3 x4
end Chb
