/-! THE MODEL CHECKS A TEXT, WORD BY WORD. -/
def BorM (σ : rS) (j : Nat) (b : tB) : Prop := σ.2.2.1 68 j = b.1 ∧ σ.2.2.1 69 j = b.2.1 ∧ σ.2.2.1 70 j = b.2.2.1 ∧ σ.2.2.1 71 j = nI b.2.2.2.length ∧ b.2.2.2.length ≤ 12 ∧ ∀ (i : Nat) (p : Int32 × Int32), b.2.2.2[i]? = some p → σ.2.2.1 72 (12 * j + i) = p.1 ∧ σ.2.2.1 73 (12 * j + i) = p.2
def Msg (σ : rS) (B : List tB) : Prop := σ.1 43 39 = nI B.length ∧ ∀ (j : Nat) (b : tB), B[j]? = some b → BorM σ j b
abbrev oCk (n : Nat) : Prop := n = 43 ∨ n = 66 ∨ (68 ≤ n ∧ n ≤ 73)
def Ck (υ σ : rS) : Prop := Kp oCk υ σ ∧ ∀ j, j ≠ 39 → σ.1 43 j = υ.1 43 j
theorem Ck.rf (σ : rS) : Ck σ σ := ⟨Kp.rf _ σ, fun _ _ => rfl⟩
theorem Ck.tr {σ τ υ : rS} (h1 : Ck σ τ) (h2 : Ck τ υ) : Ck σ υ := ⟨h1.1.tr h2.1, fun j hj => (h2.2 j hj).trans (h1.2 j hj)⟩
theorem Ck.uA {σ : rS} {n k : Nat} {v : Int32} (h : n = 66 ∨ (68 ≤ n ∧ n ≤ 73)) : Ck σ (uA σ n k v) := ⟨Kp.uA (by omega), fun _ _ => rfl⟩
theorem Ck.T {u : Nat → Int32} {L : Nat} {υ σ : rS} (h : Ck υ σ) (t : Tq u L υ) : Tq u L σ := ⟨(h.2 31 (by omega)).trans t.1, fun k hk => ((h.1.1 63 (by omega)).2.2 k).trans (t.2 k hk)⟩
theorem Ck.W {c : Nat} {S T : Nat → Nat} {υ σ : rS} (h : Ck υ σ) (m : Mw υ c S T) : Mw σ c S T := ⟨(h.2 33 (by omega)).trans m.1, fun i hi => ⟨((h.1.1 64 (by omega)).2.2 i).trans (m.2 i hi).1, ((h.1.1 65 (by omega)).2.2 i).trans (m.2 i hi).2⟩⟩
theorem Ck.B {τ υ σ : rS} (h : Ck υ σ) (m : MB τ υ) : MB τ σ := MB.mo (υ := υ) (h.2 2 (by omega)) (fun n _ _ k => (h.1.1 n (by omega)).2.2 k) m
theorem BorM.kp {σ σ' : rS} {j : Nat} {b : tB} (h : BorM σ j b) (e : ∀ n, 68 ≤ n → n ≤ 73 → Eqo σ' σ n) : BorM σ' j b := by
  obtain ⟨h1, h2, h3, h4, h5, h6⟩ := h
  refine ⟨((e 68 (by omega) (by omega)).2.2 j).trans h1, ((e 69 (by omega) (by omega)).2.2 j).trans h2, ((e 70 (by omega) (by omega)).2.2 j).trans h3, ((e 71 (by omega) (by omega)).2.2 j).trans h4, h5, fun i p hp => ?_⟩
  rw [(e 72 (by omega) (by omega)).2.2, (e 73 (by omega) (by omega)).2.2]
  exact h6 i p hp
theorem eq66 {σ : rS} {k : Nat} {v : Int32} : ∀ n, 68 ≤ n → n ≤ 73 → Eqo (uA σ 66 k v) σ n := fun n a b => (Kp.uA (O := fun n => n = 66) rfl).1 n (by omega)
theorem Msg.k66 {σ : rS} {B : List tB} {k : Nat} {v : Int32} (h : Msg σ B) : Msg (uA σ 66 k v) B := ⟨h.1, fun j b hb => (h.2 j b hb).kp eq66⟩
theorem m_new {τ σ : rS} {B : List tB} (hM : MB τ σ) (hn : wn τ ≤ 16) (m : Msg σ B) (h16 : B.length ≤ 16) (x y : Int32) : fX12_isNewPlace x y σ = some (bI (!tk τ B x y), σ) := by
  have loop : ∀ (r j fuel : Nat) (f : Bool), j + r = B.length → r < fuel → lX12_isNewPlace_18 fuel x y (bI f) (nI j) σ = some (bI (f && !((B.drop j).any (fun b => decide (b.1 = x ∧ b.2.1 = y)))), σ) := by
    intro r
    induction r with
    | zero =>
      intro j fuel f hj hf
      obtain ⟨fu, rfl⟩ : ∃ fu, fuel = fu + 1 := ⟨fuel - 1, by omega⟩
      rw [lX12_isNewPlace_18, m.1, if_pos (by rw [kle (by omega) (by omega)]; omega), if_pos (by rw [bI_01]; trivial), List.drop_eq_nil_of_le (by omega)]
      cases f <;> rfl
    | succ r ih =>
      intro j fuel f hj hf
      obtain ⟨fu, rfl⟩ : ∃ fu, fuel = fu + 1 := ⟨fuel - 1, by omega⟩
      have en : nI j + 1 = nI (j + 1) := kadd _ 1
      obtain ⟨b, hb⟩ : ∃ b, B[j]? = some b := ⟨_, List.getElem?_eq_getElem (by omega)⟩
      have hd : B.drop j = b :: B.drop (j + 1) := by
        rw [List.drop_eq_getElem_cons (by omega)]
        rw [List.getElem?_eq_getElem (by omega)] at hb
        rw [Option.some.inj hb]
      obtain ⟨q1, q2, -⟩ := m.2 j b hb
      have i0 := ih (j + 1) fu false (by omega) (by omega)
      have i1 := ih (j + 1) fu true (by omega) (by omega)
      have i0 : lX12_isNewPlace_18 fu x y 0 (nI (j + 1)) σ = _ := i0
      have i1 : lX12_isNewPlace_18 fu x y 1 (nI (j + 1)) σ = _ := i1
      rw [lX12_isNewPlace_18, m.1, if_neg (by rw [kle (by omega) (by omega)]; omega), hd, List.any_cons]
      unfold jX12_isNewPlace_53 jX12_isNewPlace_57 jX12_isNewPlace_58
      rw [vI_d, vI_d, en, i0, i1]
      cases f with
      | false => rw [if_pos (show bI false = 0 from rfl)]; rfl
      | true =>
        rw [if_neg (show ¬ bI true = 0 by decide), kinB (by omega), decide_eq_true (by omega), if_pos rfl, kc (by omega), q1, q2]
        by_cases z1 : b.1 = x
        · rw [if_pos z1, if_pos rfl]
          by_cases z2 : b.2.1 = y
          · rw [if_pos z2, decide_eq_true ⟨z1, z2⟩]; rfl
          · rw [if_neg z2, decide_eq_false (fun q => z2 q.2)]; rfl
        · rw [if_neg z1, decide_eq_false (fun q => z1 q.1)]; rfl
  unfold fX12_isNewPlace
  rw [m_taken hM hn, Option.bind_some]
  dsimp only
  have e : tk τ B x y = ((ff (tkB τ x y) (wn τ) 0).isSome || B.any (fun b => decide (b.1 = x ∧ b.2.1 = y))) := rfl
  rw [e, Bool.not_or]
  unfold jX12_isNewPlace_14
  cases (ff (tkB τ x y) (wn τ) 0).isSome with
  | false =>
    rw [if_pos (show bI false = 0 from rfl)]
    exact loop B.length 0 1000 true (by omega) (by omega)
  | true =>
    rw [if_neg (show ¬ bI true = 0 by decide)]
    exact loop B.length 0 1000 false (by omega) (by omega)
theorem m_347o (k9 : Int32 → Int32 → rS → Option (Int32 × rS)) (v1 v2 : Int32) (σ : rS) : jX12_check_347 k9 v1 v2 0 σ = some (v2, σ) := by unfold jX12_check_347; rw [if_pos rfl]
theorem m_347g (k9 : Int32 → Int32 → rS → Option (Int32 × rS)) {v1 w : Int32} (v2 : Int32) (σ : rS) {g : Int32} (hg : ¬ g = 0) (e : (if v1 = 5 then 4 else v1 + 1) = w) : jX12_check_347 k9 v1 v2 g σ = k9 w (v2 + 1) σ := by
  unfold jX12_check_347 jX12_check_365
  rw [if_neg hg, ← e]
  by_cases z : v1 = 5
  · rw [if_pos z, if_pos z, vI_d]
  · rw [if_neg z, if_neg z, vI_d]
/-- the store with one more layer of the boring in work -/
def nLy (σ : rS) (n l : Nat) (k h : Int32) : rS := uA (uA (uA σ 72 (12 * n + l) k) 73 (12 * n + l) h) 71 n (nI (l + 1))
theorem nLy_ck {σ : rS} {n l : Nat} {k h : Int32} : Ck σ (nLy σ n l k h) := ((Ck.uA (by omega)).tr (Ck.uA (by omega))).tr (Ck.uA (by omega))
theorem nLy_72 {σ : rS} {n l : Nat} {k h : Int32} (q : Nat) : (nLy σ n l k h).2.2.1 72 q = if q = 12 * n + l then k else σ.2.2.1 72 q := by
  unfold nLy
  rw [uA_ne (by omega), uA_ne (by omega), uA_3]
  simp only [true_and]
theorem nLy_73 {σ : rS} {n l : Nat} {k h : Int32} (q : Nat) : (nLy σ n l k h).2.2.1 73 q = if q = 12 * n + l then h else σ.2.2.1 73 q := by
  unfold nLy
  rw [uA_ne (by omega), uA_3, uA_ne (by omega)]
  simp only [true_and]
theorem nLy_M {σ : rS} {n : Nat} {x y t : Int32} {ls : List (Int32 × Int32)} (h : BorM σ n (x, y, t, ls)) (h12 : ls.length < 12) (k v : Int32) : BorM (nLy σ n ls.length k v) n (x, y, t, ls ++ [(k, v)]) := by
  obtain ⟨h1, h2, h3, h4, h5, h6⟩ := h
  have l1 : (ls ++ [(k, v)]).length = ls.length + 1 := by rw [List.length_append]; rfl
  refine ⟨?_, ?_, ?_, ?_, by show (ls ++ [(k, v)]).length ≤ 12; omega, fun i p hp => ?_⟩
  · unfold nLy; rw [uA_ne (by omega), uA_ne (by omega), uA_ne (by omega)]; exact h1
  · unfold nLy; rw [uA_ne (by omega), uA_ne (by omega), uA_ne (by omega)]; exact h2
  · unfold nLy; rw [uA_ne (by omega), uA_ne (by omega), uA_ne (by omega)]; exact h3
  · unfold nLy
    rw [uA_eq]
    show _ = nI (ls ++ [(k, v)]).length
    rw [l1]
  · have hp : (ls ++ [(k, v)])[i]? = some p := hp
    rw [nLy_72, nLy_73]
    by_cases w : i < ls.length
    · rw [List.getElem?_append_left w] at hp
      rw [if_neg (by omega), if_neg (by omega)]
      exact h6 i p hp
    · rw [List.getElem?_append_right (by omega)] at hp
      have e : i - ls.length = 0 := by
        have := (List.getElem?_eq_some_iff.mp hp).1
        have : i - ls.length < 1 := this
        omega
      rw [e] at hp
      have hp : some (k, v) = some p := hp
      cases hp
      have ei : i = ls.length := by omega
      rw [if_pos (by omega), if_pos (by omega)]
      exact ⟨rfl, rfl⟩
theorem nLy_o {σ : rS} {n l j : Nat} {b : tB} {k v : Int32} (h : BorM σ j b) (hj : j < n) : BorM (nLy σ n l k v) j b := by
  obtain ⟨h1, h2, h3, h4, h5, h6⟩ := h
  refine ⟨?_, ?_, ?_, ?_, h5, fun i p hp => ?_⟩
  · unfold nLy; rw [uA_ne (by omega), uA_ne (by omega), uA_ne (by omega)]; exact h1
  · unfold nLy; rw [uA_ne (by omega), uA_ne (by omega), uA_ne (by omega)]; exact h2
  · unfold nLy; rw [uA_ne (by omega), uA_ne (by omega), uA_ne (by omega)]; exact h3
  · unfold nLy; rw [uA_nj (by omega), uA_ne (by omega), uA_ne (by omega)]; exact h4
  · have := (List.getElem?_eq_some_iff.mp hp).1
    rw [nLy_72, nLy_73, if_neg (by omega), if_neg (by omega)]
    exact h6 i p hp
section Chk
variable {u : Nat → Int32} {L c : Nat} {S T : Nat → Nat} {τ υ : rS}
theorem m_lays (h : WD u L c S T) (t : Tq u L υ) (m : Mw υ c S T) {B : List tB} (h16 : B.length < 16) {x y z : Int32} : ∀ (r i l fuel : Nat) (σ : rS) (ls : List (Int32 × Int32)), l + r = 12 → ls.length = l → i ≤ c → c - i < fuel → Ck υ σ → Msg σ B → BorM σ B.length (x, y, z, ls) →
    (∀ b, lays u c S T r i = .error b → ∃ σ', lX12_check_9 fuel 4 (nI i) σ = some (nI b, σ') ∧ Ck υ σ') ∧
    (∀ q, lays u c S T r i = .ok q → ∃ σ' f', lX12_check_9 fuel 4 (nI i) σ = lX12_check_9 f' 0 (nI q.1) σ' ∧ c - q.1 < f' ∧ Ck υ σ' ∧ Msg σ' (B ++ [(x, y, z, ls ++ q.2)])) := by
  have hL := h.1
  have cL := h.2.1.1
  -- the end of the words
  have fin : ∀ (s : Int32) (fu : Nat) (σ : rS), ¬ s = 0 → Ck υ σ → lX12_check_9 (fu + 1) s (nI c) σ = some (nI c, σ) := fun s fu σ hs k => by
    rw [lX12_check_9, (k.W m).1, if_pos (by rw [kle (by omega) (by omega)]; omega), if_neg hs]
    rfl
  have e5 : ∀ (i : Nat), nI i + 1 = nI (i + 1) := fun i => kadd _ 1
  -- the letter e
  have letE : ∀ (i l fu : Nat) (σ : rS) (ls : List (Int32 × Int32)), ls.length = l → i < c → Ck υ σ → Msg σ B → BorM σ B.length (x, y, z, ls) → isLW u c S T i 101 = true → lX12_check_9 (fu + 1) 4 (nI i) σ = lX12_check_9 fu 0 (nI (i + 1)) (uI σ 43 39 (nI (B.length + 1))) ∧ Ck υ (uI σ 43 39 (nI (B.length + 1))) ∧ Msg (uI σ 43 39 (nI (B.length + 1))) (B ++ [(x, y, z, ls)]) := fun i l fu σ ls hl hi k M N w => by
    have l1 : (B ++ [(x, y, z, ls)]).length = B.length + 1 := by rw [List.length_append]; rfl
    refine ⟨?_, k.tr ⟨Kp.uI (by omega), fun j hj => uI_nj hj⟩, ⟨by rw [uI_eq, l1], fun j b hb => ?_⟩⟩
    · rw [lX12_check_9, (k.W m).1, if_neg (by rw [kle (by omega) (by omega)]; omega), if_neg (by decide), if_neg (by decide), if_neg (by decide), if_neg (by decide), if_neg (by decide), m_isWord h (k.T t) (k.W m) hi, w, Option.bind_some]
      dsimp only
      rw [if_neg (show ¬ bI true = 0 by decide), vS_d, M.1, e5, m_347g _ _ _ (by decide) (w := 0) (by decide), e5]
    · have kp : ∀ n, 68 ≤ n → n ≤ 73 → Eqo (uI σ 43 39 (nI (B.length + 1))) σ n := fun n a b => (Kp.uI (O := fun n => n = 43) rfl).1 n (by omega)
      by_cases q : j < B.length
      · rw [List.getElem?_append_left q] at hb
        exact (M.2 j b hb).kp kp
      · rw [List.getElem?_append_right (by omega)] at hb
        have e : j - B.length = 0 := by
          have := (List.getElem?_eq_some_iff.mp hb).1
          have : j - B.length < 1 := this
          omega
        rw [e] at hb
        have hb : some (x, y, z, ls) = some b := hb
        cases hb
        have ej : j = B.length := by omega
        rw [ej]
        exact N.kp kp
  intro r
  induction r with
  | zero =>
    intro i l fuel σ ls hl hls hi hf k M N
    obtain ⟨fu, rfl⟩ : ∃ fu, fuel = fu + 1 := ⟨fuel - 1, by omega⟩
    rw [lays]
    by_cases ic : i = c
    · subst ic
      have w : ¬ isLW u i S T i 101 = true := fun w => by have := isLW_lt w; omega
      rw [if_neg w]
      refine ⟨fun b hb => ?_, fun q hq => by cases hq⟩
      cases hb
      exact ⟨σ, fin 4 fu σ (by decide) k, k⟩
    · cases w : isLW u c S T i 101 with
      | true =>
        obtain ⟨g1, g2, g3⟩ := letE i l fu σ ls hls (by omega) k M N w
        refine ⟨fun b hb => (by rw [if_pos rfl] at hb; cases hb), fun q hq => ?_⟩
        rw [if_pos rfl] at hq
        cases hq
        rw [List.append_nil]
        exact ⟨_, fu, g1, by show c - (i + 1) < fu; omega, g2, g3⟩
      | false =>
        refine ⟨fun b hb => ?_, fun q hq => by rw [if_neg (by simp)] at hq; cases hq⟩
        rw [if_neg (by simp)] at hb
        cases hb
        refine ⟨σ, ?_, k⟩
        have q4 : σ.2.2.1 71 B.length = nI ls.length := N.2.2.2.1
        rw [lX12_check_9, (k.W m).1, if_neg (by rw [kle (by omega) (by omega)]; omega), if_neg (by decide), if_neg (by decide), if_neg (by decide), if_neg (by decide), if_neg (by decide), m_isWord h (k.T t) (k.W m) (by omega), w, Option.bind_some]
        dsimp only
        rw [if_pos (show bI false = 0 from rfl), M.1, kinB (by omega), decide_eq_true (by omega), if_pos rfl, kc (by omega), q4, if_pos (by show nI 12 ≤ nI _; rw [kle (by omega) (by omega)]; omega)]
        exact m_347o (lX12_check_9 fu) 4 (nI i) σ
  | succ r ih =>
    intro i l fuel σ ls hl hls hi hf k M N
    obtain ⟨fu, rfl⟩ : ∃ fu, fuel = fu + 1 := ⟨fuel - 1, by omega⟩
    rw [lays]
    by_cases ic : i = c
    · subst ic
      have w : ¬ isLW u i S T i 101 = true := fun w => by have := isLW_lt w; omega
      have n0 : numR u i S T 0 7 i = none := by
        cases e : numR u i S T 0 7 i with
        | none => rfl
        | some v => have := (numR_ok e).1; omega
      rw [if_neg w, n0]
      refine ⟨fun b hb => ?_, fun q hq => by cases hq⟩
      cases hb
      exact ⟨σ, fin 4 fu σ (by decide) k, k⟩
    · cases w : isLW u c S T i 101 with
      | true =>
        obtain ⟨g1, g2, g3⟩ := letE i l fu σ ls hls (by omega) k M N w
        rw [if_pos rfl]
        refine ⟨fun b hb => (by cases hb), fun q hq => ?_⟩
        cases hq
        rw [List.append_nil]
        exact ⟨_, fu, g1, by show c - (i + 1) < fu; omega, g2, g3⟩
      | false =>
        have q4 : σ.2.2.1 71 B.length = nI ls.length := N.2.2.2.1
        obtain ⟨v1, a1, a2⟩ := m_isNum h (k.T t) (k.W m) (i := i) (by omega) 0 7
        have k1 : Ck υ (uA σ 66 i v1) := k.tr (Ck.uA (by omega))
        have st : lX12_check_9 (fu + 1) 4 (nI i) σ = if bI (numR u c S T 0 7 i).isSome = 0 then some (nI i, uA σ 66 i v1) else lX12_check_9 fu 5 (nI (i + 1)) (uA σ 66 i v1) := by
          rw [lX12_check_9, (k.W m).1, if_neg (by rw [kle (by omega) (by omega)]; omega), if_neg (by decide), if_neg (by decide), if_neg (by decide), if_neg (by decide), if_neg (by decide), m_isWord h (k.T t) (k.W m) (by omega), w, Option.bind_some]
          dsimp only
          rw [if_pos (show bI false = 0 from rfl), M.1, kinB (by omega), decide_eq_true (by omega), if_pos rfl, kc (by omega), q4, if_neg (by show ¬ nI 12 ≤ nI _; rw [kle (by omega) (by omega)]; omega), a1, Option.bind_some]
          unfold jX12_check_345 jX12_check_346
          dsimp only
          rw [m_347o, m_347g _ _ _ (by decide) (w := 5) (by decide), e5]
        rw [st, if_neg (by simp)]
        cases y1 : numR u c S T 0 7 i with
        | none =>
          rw [if_pos bIn]
          refine ⟨fun b hb => ?_, fun q hq => by cases hq⟩
          cases hb
          exact ⟨_, rfl, k1⟩
        | some kk =>
          rw [if_neg (bIs kk)]
          have ev : v1 = kk := a2 kk y1
          subst ev
          obtain ⟨f2, rfl⟩ : ∃ f2, fu = f2 + 1 := ⟨fu - 1, by omega⟩
          dsimp only
          by_cases jc : i + 1 = c
          · have n0 : numR u c S T 1 10000 (i + 1) = none := by
              cases e : numR u c S T 1 10000 (i + 1) with
              | none => rfl
              | some v => have := (numR_ok e).1; omega
            rw [n0]
            refine ⟨fun b hb => ?_, fun q hq => by cases hq⟩
            cases hb
            rw [jc]
            exact ⟨_, fin 5 f2 _ (by decide) k1, k1⟩
          · obtain ⟨v2, b1, b2⟩ := m_isNum h (k1.T t) (k1.W m) (i := i + 1) (by omega) 1 10000
            have k2 : Ck υ (uA (uA σ 66 i v1) 66 (i + 1) v2) := k1.tr (Ck.uA (by omega))
            have N2 : BorM (uA (uA σ 66 i v1) 66 (i + 1) v2) B.length (x, y, z, ls) := (N.kp eq66).kp eq66
            have M2 : Msg (uA (uA σ 66 i v1) 66 (i + 1) v2) B := M.k66.k66
            have w1 : (uA (uA σ 66 i v1) 66 (i + 1) v2).2.2.1 66 i = v1 := by rw [uA_nj (by omega), uA_eq]
            have w2 : (uA (uA σ 66 i v1) 66 (i + 1) v2).2.2.1 66 (i + 1) = v2 := uA_eq _ _ _ _
            have st2 : lX12_check_9 (f2 + 1) 5 (nI (i + 1)) (uA σ 66 i v1) = jX12_check_347 (lX12_check_9 f2) 5 (nI (i + 1)) (bI (numR u c S T 1 10000 (i + 1)).isSome) (nLy (uA (uA σ 66 i v1) 66 (i + 1) v2) B.length ls.length v1 v2) := by
              rw [lX12_check_9, (k1.W m).1, if_neg (by rw [kle (by omega) (by omega)]; omega), if_neg (by decide), if_neg (by decide), if_neg (by decide), if_neg (by decide), if_pos rfl, b1, Option.bind_some]
              dsimp only
              generalize uA (uA σ 66 i v1) 66 (i + 1) v2 = ρ at k2 N2 M2 w1 w2
              have q4 : ρ.2.2.1 71 B.length = nI ls.length := N2.2.2.2.1
              have em : nI (i + 1) - 1 = nI i := ksub (b := 1) (by omega)
              have ix : (12 : Int32) * nI B.length + nI ls.length = nI (12 * B.length + ls.length) := by
                show nI 12 * nI B.length + nI ls.length = _
                rw [kmul, kadd]
              rw [vI_d, M2.1, kinB (by omega), decide_eq_true (by omega), if_pos rfl, em, kinB (by omega), decide_eq_true (by omega), if_pos rfl, kc (by omega), q4, ix, kinB (by omega), decide_eq_true (by omega), if_pos rfl, vS_d, kc (by omega), kc (by omega), w1]
              rw [uA_1, M2.1, kinB (by omega), decide_eq_true (by omega), if_pos rfl, kinB (by omega), decide_eq_true (by omega), if_pos rfl, kc (by omega), uA_ne (by omega), q4, ix, kinB (by omega), decide_eq_true (by omega), if_pos rfl, vS_d, kc (by omega), kc (by omega), uA_ne (by omega), w2]
              rw [uA_1, uA_1, M2.1, kinB (by omega), decide_eq_true (by omega), if_pos rfl, if_pos rfl, vS_d, kc (by omega), uA_ne (by omega), uA_ne (by omega), q4, e5]
              rfl
            rw [st2]
            have k3 : Ck υ (nLy (uA (uA σ 66 i v1) 66 (i + 1) v2) B.length ls.length v1 v2) := k2.tr nLy_ck
            cases y2 : numR u c S T 1 10000 (i + 1) with
            | none =>
              have bn : bI (none : Option Int32).isSome = 0 := rfl
              rw [bn, m_347o]
              refine ⟨fun b hb => ?_, fun q hq => by cases hq⟩
              cases hb
              exact ⟨_, rfl, k3⟩
            | some vv =>
              have ev : v2 = vv := b2 vv y2
              subst ev
              rw [m_347g _ _ _ (bIs v2) (w := 4) (by decide), e5]
              dsimp only
              have l1 : (ls ++ [(v1, v2)]).length = l + 1 := by rw [List.length_append]; show ls.length + 1 = l + 1; omega
              have N3 := nLy_M N2 (by omega) v1 v2
              have M3 : Msg (nLy (uA (uA σ 66 i v1) 66 (i + 1) v2) B.length ls.length v1 v2) B := ⟨M2.1, fun j b hb => nLy_o (M2.2 j b hb) (List.getElem?_eq_some_iff.mp hb).1⟩
              obtain ⟨g1, g2⟩ := ih (i + 2) (l + 1) f2 _ (ls ++ [(v1, v2)]) (by omega) l1 (by omega) (by omega) k3 M3 N3
              cases ww : lays u c S T r (i + 2) with
              | error b1 =>
                refine ⟨fun b hb => ?_, fun q hq => by cases hq⟩
                cases hb
                exact g1 b1 ww
              | ok q1 =>
                refine ⟨fun b hb => (by cases hb), fun q hq => ?_⟩
                cases hq
                have := g2 q1 ww
                rw [List.append_assoc] at this
                exact this
end Chk
