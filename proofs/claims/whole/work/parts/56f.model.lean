/-! THE MODEL'S EDGES. -/
theorem mq {τ σ : rS} (hM : MB τ σ) {k : Nat} (hk : k < wn τ) : zp (σ.2.2.1 44 k) (σ.2.2.1 45 k) = wP τ k := by
  obtain ⟨a, b, _⟩ := hM.2 k hk
  rw [a, b]
  rfl
theorem mqf {τ σ : rS} (hM : MF τ σ) {k : Nat} (hk : k < wf τ) : zp (σ.2.2.1 51 (4 * k)) (σ.2.2.1 51 (4 * k + 1)) = pz τ (144 + 2 * k) ∧ zp (σ.2.2.1 51 (4 * k + 2)) (σ.2.2.1 51 (4 * k + 3)) = pz τ (145 + 2 * k) := by
  obtain ⟨a, b, c, d⟩ := hM.2 k hk
  rw [a, b, c, d]
  exact ⟨rfl, rfl⟩
theorem or4 {c1 c2 c3 c4 : Prop} [Decidable c1] [Decidable c2] [Decidable c3] [Decidable c4] (c : c1 ∨ c2 ∨ c3 ∨ c4) {β : Type} (x y : β) : (if c1 then x else if c2 then x else if c3 then x else if c4 then x else y) = x := by
  rcases c with c | c | c | c
  · rw [if_pos c]
  · rw [if_pos c]; split <;> rfl
  · rw [if_pos c]; split <;> (try split) <;> rfl
  · rw [if_pos c]; split <;> (try split) <;> (try split) <;> rfl
def arrM (σ : rS) (E : List (Nat × Nat)) : Prop := σ.1 43 16 = nI E.length ∧ ∀ k e, E[k]? = some e → σ.2.2.1 53 k = nI e.1 ∧ σ.2.2.1 54 k = nI e.2
theorem m_on' {τ σ : rS} (hv : VB τ) (hM : MB τ σ) {a b c : Nat} (ha : a < wn τ) (hb : b < wn τ) (hc : c < wn τ) : fX12_isOn (σ.2.2.1 44 a) (σ.2.2.1 45 a) (σ.2.2.1 44 b) (σ.2.2.1 45 b) (σ.2.2.1 44 c) (σ.2.2.1 45 c) σ = some (bI (onZ (wP τ a) (wP τ b) (wP τ c)), σ) := by
  rw [m_on (by rw [mq hM ha]; exact (wP_ok hv ha).2) (by rw [mq hM hb]; exact (wP_ok hv hb).2) (by rw [mq hM hc]; exact (wP_ok hv hc).2), mq hM ha, mq hM hb, mq hM hc]
theorem m_meet' {τ σ : rS} (hv : VB τ) (hM : MB τ σ) {a b c d : Nat} (ha : a < wn τ) (hb : b < wn τ) (hc : c < wn τ) (hd : d < wn τ) : fX12_meet (σ.2.2.1 44 a) (σ.2.2.1 45 a) (σ.2.2.1 44 b) (σ.2.2.1 45 b) (σ.2.2.1 44 c) (σ.2.2.1 45 c) (σ.2.2.1 44 d) (σ.2.2.1 45 d) σ = some (bI (meetZ (wP τ a) (wP τ b) (wP τ c) (wP τ d)), σ) := by
  rw [m_meet (by rw [mq hM ha]; exact (wP_ok hv ha).2) (by rw [mq hM hb]; exact (wP_ok hv hb).2) (by rw [mq hM hc]; exact (wP_ok hv hc).2) (by rw [mq hM hd]; exact (wP_ok hv hd).2), mq hM ha, mq hM hb, mq hM hc, mq hM hd]
theorem free_2 {τ σ : rS} (hv : VB τ) (hM : MB τ σ) {E : List (Nat × Nat)} (hE : arrM σ E) (hl : E.length ≤ 42) (hm : ∀ e ∈ E, e.1 < wn τ ∧ e.2 < wn τ) {a b : Nat} (ha : a < wn τ) (hb : b < wn τ) : ∀ (r k fuel : Nat) (v : Bool), k + r = E.length → r < fuel → lX12_isFree_89 fuel (nI a) (nI b) (bI v) (nI k) σ = some (bI (v && freeE (wP τ) a b (E.drop k)), σ) := by
  have h16 := hv.2.1
  intro r
  induction r with
  | zero =>
    intro k fuel v hk hfu
    obtain ⟨fu, rfl⟩ : ∃ fu, fuel = fu + 1 := ⟨fuel - 1, by omega⟩
    rw [lX12_isFree_89, hE.1, if_pos ((kle (by omega) (by omega)).mpr (by omega)), List.drop_eq_nil_of_le (by omega)]
    simp only [bI_01, if_true]
    cases v <;> rfl
  | succ r ih =>
    intro k fuel v hk hfu
    obtain ⟨fu, rfl⟩ : ∃ fu, fuel = fu + 1 := ⟨fuel - 1, by omega⟩
    obtain ⟨e, he⟩ : ∃ e, E[k]? = some e := ⟨_, List.getElem?_eq_getElem (by omega)⟩
    obtain ⟨e1, e2⟩ := hE.2 k e he
    obtain ⟨m1, m2⟩ := hm e (List.mem_of_getElem? he)
    rw [lX12_isFree_89, hE.1, if_neg (by rw [kle (by omega) (by omega)]; omega), kinB (by omega), decide_eq_true (show k < 120 by omega), drop_c he]
    simp only [if_true, vI_d, kc (show k < 2147483648 by omega), e1, e2]
    have it := ih (k + 1) fu true (by omega) (by omega)
    have jf := ih (k + 1) fu false (by omega) (by omega)
    rw [bI_t] at it
    rw [bI_f] at jf
    unfold jX12_isFree_140 jX12_isFree_145 jX12_isFree_214 jX12_isFree_218 jX12_isFree_219 freeE
    rw [List.all_cons]
    unfold freeE at it jf
    have q : ∀ x y : Nat, x < wn τ → y < wn τ → (nI x = nI y) = (x = y) := fun x y hx hy => propext (keq (by omega) (by omega))
    simp only [vI_d, k1, it, jf, q a e.1 ha m1, q a e.2 ha m2, q b e.1 hb m1, q b e.2 hb m2, (show ¬ (1 : Int32) = 0 by decide), if_false, if_true, bI_0]
    simp only [kinB (show a < 2147483648 by omega), kinB (show b < 2147483648 by omega), kinB (show e.1 < 2147483648 by omega), kinB (show e.2 < 2147483648 by omega), decide_eq_true (show a < 16 by omega), decide_eq_true (show b < 16 by omega), decide_eq_true (show e.1 < 16 by omega), decide_eq_true (show e.2 < 16 by omega), if_true, kc (show a < 2147483648 by omega), kc (show b < 2147483648 by omega), kc (show e.1 < 2147483648 by omega), kc (show e.2 < 2147483648 by omega), m_meet' hv hM ha hb m1 m2, Option.bind_some, bI_0, it, jf]
    by_cases c : a = e.1 ∨ a = e.2 ∨ b = e.1 ∨ b = e.2
    · have : shB a b e = true := by unfold shB; exact decide_eq_true c
      rw [this]
      rw [or4 c]
      cases v <;> rfl
    · have : shB a b e = false := by unfold shB; exact decide_eq_false c
      rw [this, if_neg (fun z => c (Or.inl z)), if_neg (fun z => c (Or.inr (Or.inl z))), if_neg (fun z => c (Or.inr (Or.inr (Or.inl z)))), if_neg (fun z => c (Or.inr (Or.inr (Or.inr z))))]
      cases v <;> cases meetZ (wP τ a) (wP τ b) (wP τ e.1) (wP τ e.2) <;> rfl
theorem free_1 {τ σ : rS} (hv : VB τ) (hM : MB τ σ) {a b : Nat} (ha : a < wn τ) (hb : b < wn τ) : ∀ (r k fuel : Nat) (v : Bool), k + r = wn τ → r < fuel → lX12_isFree_5 fuel (nI a) (nI b) (bI v) (nI k) σ = lX12_isFree_89 1000 (nI a) (nI b) (bI (v && !anyF (fun k => decide (k ≠ a ∧ k ≠ b) && onZ (wP τ a) (wP τ b) (wP τ k)) r k)) 0 σ := by
  have h16 := hv.2.1
  intro r
  induction r with
  | zero =>
    intro k fuel v hk hfu
    obtain ⟨fu, rfl⟩ : ∃ fu, fuel = fu + 1 := ⟨fuel - 1, by omega⟩
    rw [lX12_isFree_5, hM.1, if_pos ((kle (by omega) (by omega)).mpr (by omega)), anyF]
    cases v <;> rfl
  | succ r ih =>
    intro k fuel v hk hfu
    obtain ⟨fu, rfl⟩ : ∃ fu, fuel = fu + 1 := ⟨fuel - 1, by omega⟩
    rw [lX12_isFree_5, hM.1, if_neg (by rw [kle (by omega) (by omega)]; omega), anyF]
    have it := ih (k + 1) fu true (by omega) (by omega)
    have jf := ih (k + 1) fu false (by omega) (by omega)
    rw [bI_t] at it
    rw [bI_f] at jf
    unfold jX12_isFree_74 jX12_isFree_78 jX12_isFree_79
    have q : ∀ x y : Nat, x < wn τ → y < wn τ → (nI x = nI y) = (x = y) := fun x y hx hy => propext (keq (by omega) (by omega))
    simp only [vI_d, k1, it, jf, q k a (by omega) ha, q k b (by omega) hb, bI_0]
    simp only [kinB (show a < 2147483648 by omega), kinB (show b < 2147483648 by omega), kinB (show k < 2147483648 by omega), decide_eq_true (show a < 16 by omega), decide_eq_true (show b < 16 by omega), decide_eq_true (show k < 16 by omega), if_true, kc (show a < 2147483648 by omega), kc (show b < 2147483648 by omega), kc (show k < 2147483648 by omega), m_on' hv hM ha hb (show k < wn τ by omega), Option.bind_some, bI_0, it, jf]
    by_cases c1 : k = a
    · rw [if_pos c1, decide_eq_false (fun z => z.1 c1)]
      cases v <;> rfl
    · rw [if_neg c1]
      by_cases c2 : k = b
      · rw [if_pos c2, decide_eq_false (fun z => z.2 c2)]
        cases v <;> rfl
      · rw [if_neg c2, decide_eq_true ⟨c1, c2⟩]
        cases v <;> cases onZ (wP τ a) (wP τ b) (wP τ k) <;> rfl
theorem m_free {τ σ : rS} (hv : VB τ) (hM : MB τ σ) {E : List (Nat × Nat)} (hE : arrM σ E) (hl : E.length ≤ 42) (hm : ∀ e ∈ E, e.1 < wn τ ∧ e.2 < wn τ) {a b : Nat} (ha : a < wn τ) (hb : b < wn τ) : fX12_isFree (nI a) (nI b) σ = some (bI (bareB (wn τ) (wP τ) a b && freeE (wP τ) a b E), σ) := by
  have h16 := hv.2.1
  have := free_1 hv hM ha hb (wn τ) 0 1000 true (by omega) (by omega)
  have h2 := free_2 hv hM hE hl hm ha hb E.length 0 1000 (true && !anyF (fun k => decide (k ≠ a ∧ k ≠ b) && onZ (wP τ a) (wP τ b) (wP τ k)) (wn τ) 0) (by omega) (by omega)
  rw [bI_t, show nI 0 = 0 from rfl] at this
  rw [show nI 0 = 0 from rfl, List.drop_zero] at h2
  unfold fX12_isFree
  rw [this, h2]
  rfl
def isN (σ : rS) (bk : Nat × Nat → Bool) (E : List (Nat × Nat)) : Prop := arrM σ E ∧ (∀ k e, E[k]? = some e → σ.2.2.1 55 k = bI (bk e)) ∧ ∀ a b, a < 16 → b < 16 → σ.2.2.1 56 (16 * a + b) = oI (E.findIdx? (mtB a b))
abbrev oE (n : Nat) : Prop := n = 43 ∨ (53 ≤ n ∧ n ≤ 56)
theorem mtake_1 {τ σ : rS} (hv : VB τ) (hM : MB τ σ) (hF : VF τ) (hMF : MF τ σ) {a b : Nat} (ha : a < wn τ) (hb : b < wn τ) {q : Nat → Bool} (hq : ∀ k, k < wf τ → meetZ (pz τ (144 + 2 * k)) (pz τ (145 + 2 * k)) (wP τ a) (wP τ b) = q k) : ∀ (r k fuel : Nat) (v : Bool), k + r = wf τ → r < fuel → ∃ fu, lX12_takeEdge_5 fuel (nI a) (nI b) (bI v) (nI k) σ = lX12_takeEdge_5 (fu + 1) (nI a) (nI b) (bI (v || anyF q r k)) (nI (wf τ)) σ := by
  have h16 := hv.2.1
  have h8 := hF.2.1
  intro r
  induction r with
  | zero =>
    intro k fuel v hk hfu
    obtain ⟨fu, rfl⟩ : ∃ fu, fuel = fu + 1 := ⟨fuel - 1, by omega⟩
    obtain rfl : k = wf τ := by omega
    refine ⟨fu, ?_⟩
    rw [anyF]
    cases v <;> rfl
  | succ r ih =>
    intro k fuel v hk hfu
    obtain ⟨fu, rfl⟩ : ∃ fu, fuel = fu + 1 := ⟨fuel - 1, by omega⟩
    rw [lX12_takeEdge_5, hMF.1, if_neg (by rw [kle (by omega) (by omega)]; omega), anyF]
    obtain ⟨f1, h1⟩ := ih (k + 1) fu true (by omega) (by omega)
    obtain ⟨f2, h2⟩ := ih (k + 1) fu false (by omega) (by omega)
    rw [bI_t] at h1
    rw [bI_f] at h2
    have e0 : (4 : Int32) * nI k = nI (4 * k) := kmul 4 k
    have e1 : nI (4 * k) + 1 = nI (4 * k + 1) := k1 _
    have e2 : nI (4 * k) + 2 = nI (4 * k + 2) := kadd _ 2
    have e3 : nI (4 * k) + 3 = nI (4 * k + 3) := kadd _ 3
    obtain ⟨q1, q2⟩ := mqf hMF (show k < wf τ by omega)
    obtain ⟨o1, o2⟩ := fa_ok hF (show k < wf τ by omega)
    have mm : fX12_meet (σ.2.2.1 44 a) (σ.2.2.1 45 a) (σ.2.2.1 44 b) (σ.2.2.1 45 b) (σ.2.2.1 51 (4 * k)) (σ.2.2.1 51 (4 * k + 1)) (σ.2.2.1 51 (4 * k + 2)) (σ.2.2.1 51 (4 * k + 3)) σ = some (bI (q k), σ) := by
      rw [m_meet (by rw [mq hM ha]; exact (wP_ok hv ha).2) (by rw [mq hM hb]; exact (wP_ok hv hb).2) (by rw [q1]; exact o1.2) (by rw [q2]; exact o2.2), mq hM ha, mq hM hb, q1, q2, meetZ_sy, hq k (by omega)]
    unfold jX12_takeEdge_90 jX12_takeEdge_95
    simp only [vI_d, k1, h1, h2, bI_0, e0, e1, e2, e3, kinB (show a < 2147483648 by omega), kinB (show b < 2147483648 by omega), kinB (show 4 * k < 2147483648 by omega), kinB (show 4 * k + 1 < 2147483648 by omega), kinB (show 4 * k + 2 < 2147483648 by omega), kinB (show 4 * k + 3 < 2147483648 by omega), decide_eq_true (show a < 16 by omega), decide_eq_true (show b < 16 by omega), decide_eq_true (show 4 * k < 32 by omega), decide_eq_true (show 4 * k + 1 < 32 by omega), decide_eq_true (show 4 * k + 2 < 32 by omega), decide_eq_true (show 4 * k + 3 < 32 by omega), if_true, kc (show a < 2147483648 by omega), kc (show b < 2147483648 by omega), kc (show 4 * k < 2147483648 by omega), kc (show 4 * k + 1 < 2147483648 by omega), kc (show 4 * k + 2 < 2147483648 by omega), kc (show 4 * k + 3 < 2147483648 by omega), mm, Option.bind_some, bI_0, h1, h2]
    cases v
    · cases q k
      · refine ⟨f2, ?_⟩
        rw [Bool.false_or, Bool.false_or] at *
        simp
      · refine ⟨f1, ?_⟩
        simp
    · refine ⟨f1, ?_⟩
      simp
theorem m_takeEdge {τ σ : rS} (hv : VB τ) (hM : MB τ σ) (hF : VF τ) (hMF : MF τ σ) {E : List (Nat × Nat)} (hE : isN σ (bkW τ) E) (hl : E.length < 42) {a b : Nat} (ha : a < wn τ) (hb : b < wn τ) (hnew : ∀ e ∈ E, mtB a b e = false) : ∃ υ, fX12_takeEdge (nI a) (nI b) σ = some ((), υ) ∧ isN υ (bkW τ) (E ++ [(a, b)]) ∧ Kp oE σ υ ∧ (∀ j, j ≠ 16 → υ.1 43 j = σ.1 43 j) := by
  have h16 := hv.2.1
  have h8 := hF.2.1
  obtain ⟨⟨h1, h2⟩, h4, h5⟩ := hE
  obtain ⟨fu, hfu⟩ := mtake_1 hv hM hF hMF ha hb (q := fun k => meetZ (pz τ (144 + 2 * k)) (pz τ (145 + 2 * k)) (wP τ a) (wP τ b)) (fun k _ => rfl) (wf τ) 0 1000 false (by omega) (by omega)
  have i1 : inB (nI E.length) 120 = true := by rw [kinB (by omega)]; exact decide_eq_true (by omega)
  have i3 : 16 * nI a + nI b = nI (16 * a + b) := by
    show nI 16 * nI a + nI b = _
    rw [kmul, kadd]
  have i4 : 16 * nI b + nI a = nI (16 * b + a) := by
    show nI 16 * nI b + nI a = _
    rw [kmul, kadd]
  have i5 : inB (nI (16 * a + b)) 256 = true := by rw [kinB (by omega)]; exact decide_eq_true (by omega)
  have i6 : inB (nI (16 * b + a)) 256 = true := by rw [kinB (by omega)]; exact decide_eq_true (by omega)
  have ebk : (false || anyF (fun k => meetZ (pz τ (144 + 2 * k)) (pz τ (145 + 2 * k)) (wP τ a) (wP τ b)) (wf τ) 0) = bkW τ (a, b) := by rw [Bool.false_or]; rfl
  rw [ebk] at hfu
  refine ⟨uI (uA (uA (uA (uA (uA σ 53 E.length (nI a)) 54 E.length (nI b)) 55 E.length (bI (bkW τ (a, b)))) 56 (16 * a + b) (nI E.length)) 56 (16 * b + a) (nI E.length)) 43 16 (nI (E.length + 1)), ?_, ⟨⟨?_, ?_⟩, ?_, ?_⟩, ?_, ?_⟩
  · unfold fX12_takeEdge
    refine hfu.trans ?_
    rw [lX12_takeEdge_5, hMF.1, if_pos ((kle (by omega) (by omega)).mpr (Nat.le_refl _))]
    simp only [h1, i1, i3, i4, i5, i6, if_true, vS_d, uA_1, kc (show E.length < 2147483648 by omega), nar_b, kc (show 16 * a + b < 2147483648 by omega), kc (show 16 * b + a < 2147483648 by omega), k1]
  · rw [uI_eq, List.length_append]; rfl
  · intro k e hk
    rw [uI_2]
    rcases app_get hk with ⟨c, d⟩ | ⟨c, d⟩
    · have := h2 k e d
      constructor
      · rw [uA_ne (by omega), uA_ne (by omega), uA_ne (by omega), uA_ne (by omega), uA_nj (by omega)]; exact this.1
      · rw [uA_ne (by omega), uA_ne (by omega), uA_ne (by omega), uA_nj (by omega), uA_ne (by omega)]; exact this.2
    · subst c d
      constructor
      · rw [uA_ne (by omega), uA_ne (by omega), uA_ne (by omega), uA_ne (by omega), uA_eq]
      · rw [uA_ne (by omega), uA_ne (by omega), uA_ne (by omega), uA_eq]
  · intro k e hk
    rw [uI_2]
    rcases app_get hk with ⟨c, d⟩ | ⟨c, d⟩
    · have := h4 k e d
      rw [uA_ne (by omega), uA_ne (by omega), uA_nj (by omega), uA_ne (by omega), uA_ne (by omega)]; exact this
    · subst c d
      rw [uA_ne (by omega), uA_ne (by omega), uA_eq]
  · intro c d hc hd
    rw [uI_2, List.findIdx?_append, List.findIdx?_singleton]
    cases hm : mtB c d (a, b) with
    | true =>
      have z := of_decide_eq_true hm
      dsimp only at z
      have nn : E.findIdx? (mtB c d) = none := by
        rw [List.findIdx?_eq_none_iff]
        intro e he
        have y := of_decide_eq_false (hnew e he)
        apply decide_eq_false
        omega
      rw [nn, uA_3, uA_3]
      simp only [if_true, Option.map_some, Option.none_or, Nat.zero_add]
      show _ = nI E.length
      by_cases z2 : c = b ∧ d = a
      · rw [if_pos (by rw [z2.1, z2.2]; exact ⟨trivial, rfl⟩)]
      · have : a = c ∧ b = d := by omega
        rw [if_neg (by omega), if_pos (by rw [this.1, this.2]; exact ⟨trivial, rfl⟩)]
    | false =>
      have z := of_decide_eq_false hm
      dsimp only at z
      rw [uA_nj (by omega), uA_nj (by omega), uA_ne (by omega), uA_ne (by omega), uA_ne (by omega), h5 c d hc hd]
      simp
  · exact (((((Kp.uA (by omega)).tr (Kp.uA (by omega))).tr (Kp.uA (by omega))).tr (Kp.uA (by omega))).tr (Kp.uA (by omega))).tr (Kp.uI (by omega))
  · intro j hj
    rw [uI_nj hj]
    rfl
