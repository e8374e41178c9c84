/-! THE CLASS TAKES EDGES. -/
abbrev oN (n : Nat) : Prop := 10 ≤ n ∧ n ≤ 17
def bkW (τ : rS) (e : Nat × Nat) : Bool := anyF (fun k => meetZ (pz τ (144 + 2 * k)) (pz τ (145 + 2 * k)) (wP τ e.1) (wP τ e.2)) (wf τ) 0
theorem pz_kp {σ τ : rS} {n : Nat} (h : Eqo τ σ n) : pz τ n = pz σ n := by unfold pz; rw [h.1, h.1]
theorem wP_kp {O : Nat → Prop} {σ τ : rS} (h : Kp O σ τ) (hO : ∀ n, O n → n < 80) : wP τ = wP σ := funext fun k => pz_kp (h.1 _ (fun z => by have := hO _ z; omega))
theorem bkW_kp {O : Nat → Prop} {σ τ : rS} (h : Kp O σ τ) (hO : ∀ n, O n → n < 80) (h3 : ¬ O 3) : bkW τ = bkW σ := funext fun e => by
  unfold bkW
  rw [wP_kp h hO, wf_kp (h.1 3 h3)]
  congr 1
  funext k
  rw [pz_kp (h.1 (144 + 2 * k) (fun z => by have := hO _ z; omega)), pz_kp (h.1 (145 + 2 * k) (fun z => by have := hO _ z; omega))]
theorem oN_80 : ∀ n, oN n → n < 80 := fun n h => by omega
theorem c_bare {σ : rS} (hv : VB σ) {a b : Nat} (ha : a < wn σ) (hb : b < wn σ) : fX6_isBareWay (nI a) (nI b) σ = some (bI (bareB (wn σ) (wP σ) a b), σ) := by
  have h16 := hv.2.1
  have loop : ∀ (r k fuel : Nat), k + r = wn σ → r < fuel → lX6_isBareWay_2 fuel (nI a) (nI b) (nI k) σ = some (bI (!anyF (fun k => decide (k ≠ a ∧ k ≠ b) && onZ (wP σ a) (wP σ b) (wP σ k)) r k), σ) := by
    intro r
    induction r with
    | zero =>
      intro k fuel hk hfu
      obtain ⟨fu, rfl⟩ : ∃ fu, fuel = fu + 1 := ⟨fuel - 1, by omega⟩
      rw [lX6_isBareWay_2, hv.1, if_pos ((kle (by omega) (by omega)).mpr (by omega))]
      rfl
    | succ r ih =>
      intro k fuel hk hfu
      obtain ⟨fu, rfl⟩ : ∃ fu, fuel = fu + 1 := ⟨fuel - 1, by omega⟩
      have nx : ∀ σ2, jX6_isBareWay_55 (lX6_isBareWay_2 fu) (nI a) (nI b) (nI k) σ2 = lX6_isBareWay_2 fu (nI a) (nI b) (nI (k + 1)) σ2 := fun σ2 => by
        unfold jX6_isBareWay_55
        show lX6_isBareWay_2 fu (nI a) (nI b) (nI k + nI 1) σ2 = _
        rw [kadd]
      rw [lX6_isBareWay_2, hv.1, if_neg (by rw [kle (by omega) (by omega)]; omega)]
      simp only [nx, ih (k + 1) fu (by omega) (by omega)]
      rw [anyF]
      by_cases c1 : k = a
      · rw [if_pos ((keq (by omega) (by omega)).mpr c1), decide_eq_false (fun z => z.1 c1)]
        rfl
      · rw [if_neg (fun z => c1 ((keq (by omega) (by omega)).mp z))]
        by_cases c2 : k = b
        · rw [if_pos ((keq (by omega) (by omega)).mpr c2), decide_eq_false (fun z => z.2 c2)]
          rfl
        · rw [if_neg (fun z => c2 ((keq (by omega) (by omega)).mp z)), decide_eq_true ⟨c1, c2⟩]
          simp only [kinB (show a < 2147483648 by omega), kinB (show b < 2147483648 by omega), kinB (show k < 2147483648 by omega), decide_eq_true (show a < 16 by omega), decide_eq_true (show b < 16 by omega), decide_eq_true (show k < 16 by omega), if_true, kc (show a < 2147483648 by omega), kc (show b < 2147483648 by omega), kc (show k < 2147483648 by omega), if_pos (bo_ok (show a < 16 by omega)), if_pos (bo_ok (show b < 16 by omega)), if_pos (bo_ok (show k < 16 by omega))]
          rw [c_onWay (wP_ok hv ha) (wP_ok hv hb) (wP_ok hv (by omega)), Option.bind_some]
          simp only [bI_0, ih (k + 1) fu (by omega) (by omega)]
          show (if onZ (wP σ a) (wP σ b) (wP σ k) = false then _ else _) = _
          cases onZ (wP σ a) (wP σ b) (wP σ k) <;> rfl
  exact loop (wn σ) 0 1000 (by omega) (by omega)
def arrE (σ : rS) (E : List (Nat × Nat)) : Prop := σ.1 10 4 = nI E.length ∧ ∀ k e, E[k]? = some e → σ.2.2.1 11 k = nI e.1 ∧ σ.2.2.1 12 k = nI e.2
theorem drop_c {α : Type} {E : List α} {k : Nat} {e : α} (h : E[k]? = some e) : E.drop k = e :: E.drop (k + 1) := by
  obtain ⟨hk, he⟩ := List.getElem?_eq_some_iff.mp h
  rw [List.drop_eq_getElem_cons hk, he]
theorem c_nomeet {σ : rS} (hv : VB σ) {E : List (Nat × Nat)} (hE : arrE σ E) (hl : E.length ≤ 42) (hm : ∀ e ∈ E, e.1 < wn σ ∧ e.2 < wn σ) {a b : Nat} (ha : a < wn σ) (hb : b < wn σ) : fX6_meetsNoEdge (nI a) (nI b) σ = some (bI (freeE (wP σ) a b E), σ) := by
  have h16 := hv.2.1
  have loop : ∀ (r k fuel : Nat), k + r = E.length → r < fuel → lX6_meetsNoEdge_3 fuel (nI a) (nI b) (nI k) σ = some (bI (freeE (wP σ) a b (E.drop k)), σ) := by
    intro r
    induction r with
    | zero =>
      intro k fuel hk hfu
      obtain ⟨fu, rfl⟩ : ∃ fu, fuel = fu + 1 := ⟨fuel - 1, by omega⟩
      rw [lX6_meetsNoEdge_3, hE.1, if_pos ((kle (by omega) (by omega)).mpr (by omega)), List.drop_eq_nil_of_le (by omega)]
      rfl
    | succ r ih =>
      intro k fuel hk hfu
      obtain ⟨fu, rfl⟩ : ∃ fu, fuel = fu + 1 := ⟨fuel - 1, by omega⟩
      have nx : ∀ σ2, jX6_meetsNoEdge_112 (lX6_meetsNoEdge_3 fu) (nI a) (nI b) (nI k) σ2 = lX6_meetsNoEdge_3 fu (nI a) (nI b) (nI (k + 1)) σ2 := fun σ2 => by
        unfold jX6_meetsNoEdge_112
        show lX6_meetsNoEdge_3 fu (nI a) (nI b) (nI k + nI 1) σ2 = _
        rw [kadd]
      obtain ⟨e, he⟩ : ∃ e, E[k]? = some e := ⟨_, List.getElem?_eq_getElem (by omega)⟩
      obtain ⟨e1, e2⟩ := hE.2 k e he
      obtain ⟨m1, m2⟩ := hm e (List.mem_of_getElem? he)
      rw [lX6_meetsNoEdge_3, hE.1, if_neg (by rw [kle (by omega) (by omega)]; omega), kinB (by omega), decide_eq_true (show k < 42 by omega), drop_c he]
      simp only [if_true, vI_d, kc (show k < 2147483648 by omega), e1, e2]
      unfold jX6_meetsNoEdge_54 jX6_meetsNoEdge_59 freeE
      rw [List.all_cons]
      simp only [nx, ih (k + 1) fu (by omega) (by omega)]
      have q : ∀ x y : Nat, x < wn σ → y < wn σ → (nI x = nI y) = (x = y) := fun x y hx hy => propext (keq (by omega) (by omega))
      simp only [q a e.1 ha m1, q a e.2 ha m2, q b e.1 hb m1, q b e.2 hb m2, (show ¬ (1 : Int32) = 0 by decide), if_false, if_true]
      by_cases c : a = e.1 ∨ a = e.2 ∨ b = e.1 ∨ b = e.2
      · have : shB a b e = true := by unfold shB; exact decide_eq_true c
        rw [this]
        rcases c with c | c | c | c
        · rw [if_pos c]; rfl
        · rw [if_pos c]; split <;> rfl
        · rw [if_pos c]; split <;> (try split) <;> rfl
        · rw [if_pos c]; split <;> (try split) <;> (try split) <;> rfl
      · have : shB a b e = false := by unfold shB; exact decide_eq_false c
        rw [this, if_neg (fun z => c (Or.inl z)), if_neg (fun z => c (Or.inr (Or.inl z))), if_neg (fun z => c (Or.inr (Or.inr (Or.inl z)))), if_neg (fun z => c (Or.inr (Or.inr (Or.inr z))))]
        simp only [kinB (show a < 2147483648 by omega), kinB (show b < 2147483648 by omega), kinB (show e.1 < 2147483648 by omega), kinB (show e.2 < 2147483648 by omega), decide_eq_true (show a < 16 by omega), decide_eq_true (show b < 16 by omega), decide_eq_true (show e.1 < 16 by omega), decide_eq_true (show e.2 < 16 by omega), if_true, kc (show a < 2147483648 by omega), kc (show b < 2147483648 by omega), kc (show e.1 < 2147483648 by omega), kc (show e.2 < 2147483648 by omega), if_pos (bo_ok (show a < 16 by omega)), if_pos (bo_ok (show b < 16 by omega)), if_pos (bo_ok (show e.1 < 16 by omega)), if_pos (bo_ok (show e.2 < 16 by omega))]
        rw [c_meet (wP_ok hv ha) (wP_ok hv hb) (wP_ok hv m1) (wP_ok hv m2), Option.bind_some]
        simp only [bI_0, ih (k + 1) fu (by omega) (by omega)]
        show (if meetZ (wP σ a) (wP σ b) (wP σ e.1) (wP σ e.2) = false then _ else _) = _
        cases meetZ (wP σ a) (wP σ b) (wP σ e.1) (wP σ e.2) <;> rfl
  exact loop E.length 0 1000 (by omega) (by omega)
theorem fa_ok {σ : rS} (hv : VF σ) {k : Nat} (hk : k < wf σ) : okQ σ (144 + 2 * k) ∧ okQ σ (145 + 2 * k) := by
  obtain ⟨h1, h2, h3⟩ := hv
  obtain ⟨a, b, c, d⟩ := h3 k hk
  exact ⟨⟨f0_ok (by omega), a, b⟩, f1_ok (by omega), c, d⟩
theorem c_break {σ : rS} (hv : VB σ) (hf : VF σ) {a b : Nat} (ha : a < wn σ) (hb : b < wn σ) : fX3_breakWay (80 + 4 * a + 1) (80 + 4 * b + 1) σ = some (bI (bkW σ (a, b)), σ) := by
  have h8 := hf.2.1
  have loop : ∀ (r k fuel : Nat), k + r = wf σ → r < fuel → lX3_breakWay_2 fuel (80 + 4 * a + 1) (80 + 4 * b + 1) (nI k) σ = some (bI (anyF (fun k => meetZ (pz σ (144 + 2 * k)) (pz σ (145 + 2 * k)) (wP σ a) (wP σ b)) r k), σ) := by
    intro r
    induction r with
    | zero =>
      intro k fuel hk hfu
      obtain ⟨fu, rfl⟩ : ∃ fu, fuel = fu + 1 := ⟨fuel - 1, by omega⟩
      rw [lX3_breakWay_2, hf.1, if_pos ((kle (by omega) (by omega)).mpr (by omega))]
      rfl
    | succ r ih =>
      intro k fuel hk hfu
      obtain ⟨fu, rfl⟩ : ∃ fu, fuel = fu + 1 := ⟨fuel - 1, by omega⟩
      have nx : nI k + 1 = nI (k + 1) := by
        show nI k + nI 1 = _
        rw [kadd]
      obtain ⟨q1, q2⟩ := fa_ok hf (show k < wf σ by omega)
      rw [lX3_breakWay_2, hf.1, if_neg (by rw [kle (by omega) (by omega)]; omega), kinB (by omega), decide_eq_true (show k < 8 by omega)]
      simp only [if_true, kc (show k < 2147483648 by omega), c_meet q1 q2 (wP_ok hv ha) (wP_ok hv hb), Option.bind_some, bI_0, vI_d, nx, ih (k + 1) fu (by omega) (by omega)]
      rw [anyF]
      show (if meetZ (pz σ (144 + 2 * k)) (pz σ (145 + 2 * k)) (wP σ a) (wP σ b) = false then _ else _) = _
      cases meetZ (pz σ (144 + 2 * k)) (pz σ (145 + 2 * k)) (wP σ a) (wP σ b) <;> rfl
  exact loop (wf σ) 0 1000 (by omega) (by omega)
/-- the edge of two borings -/
def mtB (a b : Nat) (e : Nat × Nat) : Bool := decide ((e.1 = a ∧ e.2 = b) ∨ (e.1 = b ∧ e.2 = a))
def jnE (bk : Nat × Nat → Bool) (E : List (Nat × Nat)) (a b : Nat) : Option Nat := E.findIdx? (fun e => mtB a b e && !bk e)
def isE (σ : rS) (bk : Nat × Nat → Bool) (E : List (Nat × Nat)) : Prop := arrE σ E ∧ σ.1 10 5 = nI (E.countP bk) ∧ (∀ k e, E[k]? = some e → σ.2.2.1 13 k = bI (bk e)) ∧ ∀ a b, a < 16 → b < 16 → σ.2.2.1 16 (a * 16 + b) = oI (jnE bk E a b)
theorem nar_b (b : Bool) : vp_nar .boolean (bI b) = bI b := by cases b <;> decide
theorem app_get {α : Type} {E : List α} {x : α} {k : Nat} {e : α} (h : (E ++ [x])[k]? = some e) : (k < E.length ∧ E[k]? = some e) ∨ (k = E.length ∧ e = x) := by
  by_cases c : k < E.length
  · rw [List.getElem?_append_left c] at h
    exact Or.inl ⟨c, h⟩
  · rw [List.getElem?_append_right (by omega)] at h
    right
    by_cases d : k = E.length
    · subst d
      rw [Nat.sub_self] at h
      exact ⟨rfl, by simpa using h.symm⟩
    · obtain ⟨j, hj⟩ : ∃ j, k - E.length = j + 1 := ⟨k - E.length - 1, by omega⟩
      rw [hj] at h
      simp at h
theorem c_takeEdge {σ : rS} {bk : Nat × Nat → Bool} {E : List (Nat × Nat)} (hE : isE σ bk E) (hl : E.length < 42) {a b : Nat} (ha : a < 16) (hb : b < 16) (hnew : ∀ e ∈ E, mtB a b e = false) : ∃ τ, fX6_takeEdge (nI a) (nI b) (bI (bk (a, b))) σ = some ((), τ) ∧ isE τ bk (E ++ [(a, b)]) ∧ Kp oN σ τ ∧ τ.1 10 10 = σ.1 10 10 ∧ (∀ k, τ.2.2.1 15 k = σ.2.2.1 15 k) := by
  obtain ⟨⟨h1, h2⟩, h3, h4, h5⟩ := hE
  have i1 : inB (nI E.length) 42 = true := by rw [kinB (by omega)]; exact decide_eq_true hl
  have i2 : nI E.length < 42 := (klt (b := 42) (by omega) (by omega)).mpr hl
  have i3 : nI a * 16 + nI b = nI (a * 16 + b) := by
    show nI a * nI 16 + nI b = _
    rw [kmul, kadd]
  have i4 : nI b * 16 + nI a = nI (b * 16 + a) := by
    show nI b * nI 16 + nI a = _
    rw [kmul, kadd]
  have i5 : inB (nI (a * 16 + b)) 256 = true := by rw [kinB (by omega)]; exact decide_eq_true (by omega)
  have i6 : inB (nI (b * 16 + a)) 256 = true := by rw [kinB (by omega)]; exact decide_eq_true (by omega)
  have i7 : ∀ m, nI m + 1 = nI (m + 1) := fun m => by show nI m + nI 1 = _; rw [kadd]
  have jn : ∀ c d, jnE bk (E ++ [(a, b)]) c d = (jnE bk E c d).or (if mtB c d (a, b) && !bk (a, b) then some E.length else none) := fun c d => by
    unfold jnE
    rw [List.findIdx?_append]
    congr 1
    rw [List.findIdx?_singleton]
    split <;> simp
  have nn : ∀ c d, mtB c d (a, b) = true → jnE bk E c d = none := fun c d hcd => by
    unfold jnE
    rw [List.findIdx?_eq_none_iff]
    intro e he
    have z := hnew e he
    have : mtB c d e = false := by
      unfold mtB at hcd z ⊢
      have hcd := of_decide_eq_true hcd
      have z := of_decide_eq_false z
      dsimp only at hcd
      apply decide_eq_false
      omega
    rw [this]
    rfl
  refine ⟨uI (if bk (a, b) = false then uA (uA (uA (uA (uA σ 11 E.length (nI a)) 12 E.length (nI b)) 13 E.length (bI (bk (a, b)))) 16 (a * 16 + b) (nI E.length)) 16 (b * 16 + a) (nI E.length) else uI (uA (uA (uA σ 11 E.length (nI a)) 12 E.length (nI b)) 13 E.length (bI (bk (a, b)))) 10 5 (nI (E.countP bk + 1))) 10 4 (nI (E.length + 1)), ?_, ⟨⟨?_, ?_⟩, ?_, ?_, ?_⟩, ?_, ?_, ?_⟩
  · unfold fX6_takeEdge jX6_takeEdge_87
    simp only [h1, h3, i1, i2, i3, i4, i5, i6, if_true, vS_d, uA_1, kc (show E.length < 2147483648 by omega), nar_b, bI_0, kc (show a * 16 + b < 2147483648 by omega), kc (show b * 16 + a < 2147483648 by omega), i7, uI_nj (show (4 : Nat) ≠ 5 by omega)]
    split <;> rfl
  · rw [uI_eq, List.length_append]; rfl
  · intro k e hk
    rcases app_get hk with ⟨c, d⟩ | ⟨c, d⟩
    · have := h2 k e d
      cases bk (a, b) <;> simp only [uI_2, if_true, Bool.true_eq_false, if_false] <;> constructor
      · rw [uA_ne (by omega), uA_ne (by omega), uA_ne (by omega), uA_ne (by omega), uA_nj (by omega)]; exact this.1
      · rw [uA_ne (by omega), uA_ne (by omega), uA_ne (by omega), uA_nj (by omega), uA_ne (by omega)]; exact this.2
      · rw [uA_ne (by omega), uA_ne (by omega), uA_nj (by omega)]; exact this.1
      · rw [uA_ne (by omega), uA_nj (by omega), uA_ne (by omega)]; exact this.2
    · subst c d
      cases bk (a, b) <;> simp only [uI_2, if_true, Bool.true_eq_false, if_false] <;> constructor
      · rw [uA_ne (by omega), uA_ne (by omega), uA_ne (by omega), uA_ne (by omega), uA_eq]
      · rw [uA_ne (by omega), uA_ne (by omega), uA_ne (by omega), uA_eq]
      · rw [uA_ne (by omega), uA_ne (by omega), uA_eq]
      · rw [uA_ne (by omega), uA_eq]
  · rw [uI_nj (by omega), List.countP_append]
    cases h : bk (a, b) <;> simp only [if_true, Bool.true_eq_false, if_false]
    · rw [uA_1, uA_1, uA_1, uA_1, uA_1, h3]
      simp [h]
    · rw [uI_eq]
      simp [h]
  · intro k e hk
    rcases app_get hk with ⟨c, d⟩ | ⟨c, d⟩
    · have := h4 k e d
      cases bk (a, b) <;> simp only [uI_2, if_true, Bool.true_eq_false, if_false]
      · rw [uA_ne (by omega), uA_ne (by omega), uA_nj (by omega), uA_ne (by omega), uA_ne (by omega)]; exact this
      · rw [uA_nj (by omega), uA_ne (by omega), uA_ne (by omega)]; exact this
    · subst c d
      cases h : bk (a, b) <;> simp only [uI_2, if_true, Bool.true_eq_false, if_false]
      · rw [uA_ne (by omega), uA_ne (by omega), uA_eq]
      · rw [uA_eq]
  · intro c d hc hd
    rw [jn c d]
    cases hm : mtB c d (a, b) with
    | true =>
      rw [nn c d hm]
      cases h : bk (a, b) <;> simp only [uI_2, if_true, Bool.true_eq_false, if_false]
      · have := of_decide_eq_true hm
        dsimp only at this
        show _ = nI E.length
        rw [uA_3, uA_3]
        by_cases z : c = b ∧ d = a
        · rw [if_pos (by rw [z.1, z.2]; exact ⟨rfl, rfl⟩)]
        · rw [if_neg (by omega), if_pos (by have : a = c ∧ b = d := by omega
                                            rw [this.1, this.2]; exact ⟨rfl, rfl⟩)]
      · rw [uA_ne (by omega), uA_ne (by omega), uA_ne (by omega), h5 c d hc hd, nn c d hm]
        rfl
    | false =>
      have := of_decide_eq_false hm
      dsimp only at this
      have e : (jnE bk E c d).or (if (false && !bk (a, b)) = true then some E.length else none) = jnE bk E c d := by simp
      rw [e, ← h5 c d hc hd]
      cases h : bk (a, b) <;> simp only [uI_2, if_true, Bool.true_eq_false, if_false]
      · rw [uA_nj (by omega), uA_nj (by omega), uA_ne (by omega), uA_ne (by omega), uA_ne (by omega)]
      · rw [uA_ne (by omega), uA_ne (by omega), uA_ne (by omega)]
  · cases bk (a, b) <;> simp only [if_true, Bool.true_eq_false, if_false]
    · exact (((((Kp.uA (by omega)).tr (Kp.uA (by omega))).tr (Kp.uA (by omega))).tr (Kp.uA (by omega))).tr (Kp.uA (by omega))).tr (Kp.uI (by omega))
    · exact ((((Kp.uA (by omega)).tr (Kp.uA (by omega))).tr (Kp.uA (by omega))).tr (Kp.uI (by omega))).tr (Kp.uI (by omega))
  · rw [uI_nj (by omega)]
    cases bk (a, b) <;> simp only [if_true, Bool.true_eq_false, if_false]
    · rfl
    · rw [uI_nj (by omega)]; rfl
  · intro k
    cases bk (a, b) <;> simp only [uI_2, if_true, Bool.true_eq_false, if_false]
    · rw [uA_ne (by omega), uA_ne (by omega), uA_ne (by omega), uA_ne (by omega), uA_ne (by omega)]
    · rw [uA_ne (by omega), uA_ne (by omega), uA_ne (by omega)]
