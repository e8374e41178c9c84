/-! BORINGS STAGED BY THE CLASS. -/
abbrev tB : Type := Int32 × Int32 × Int32 × List (Int32 × Int32)
def BorAt (σ : rS) (m : Nat) (b : tB) : Prop := wx σ m = b.1 ∧ wy σ m = b.2.1 ∧ wt σ m = b.2.2.1 ∧ σ.1 (80 + 4 * m) 4 = nI b.2.2.2.length ∧ ∀ (i : Nat) (p : Int32 × Int32), b.2.2.2[i]? = some p → wk σ m i = p.1 ∧ wh σ m i = p.2
def okBor (b : tB) : Prop := okR (-1000) 1000 b.1 ∧ okR (-1000) 1000 b.2.1 ∧ okR (-100000) 100000 b.2.2.1 ∧ b.2.2.2.length ≤ 12 ∧ ∀ (i : Nat) (p : Int32 × Int32), b.2.2.2[i]? = some p → okR 0 7 p.1 ∧ okR 1 10000 p.2
abbrev oSt (m n : Nat) : Prop := n = 1 ∨ n = 38 ∨ (80 + 4 * m ≤ n ∧ n < 144)
def Sg (τ σ : rS) (B : List tB) : Prop := Kp (oSt (wn τ)) τ σ ∧ σ.1 1 1 = nI (wn τ) ∧ σ.1 1 2 = nI B.length ∧ wn τ + B.length ≤ 16 ∧ ∀ (j : Nat) (b : tB), B[j]? = some b → BorAt σ (wn τ + j) b ∧ okBor b
def tk (τ : rS) (B : List tB) (x y : Int32) : Bool := tkn τ x y || B.any (fun b => decide (b.1 = x ∧ b.2.1 = y))
theorem BorAt.kp {σ σ' : rS} {m : Nat} {b : tB} (h : BorAt σ m b) (e : ∀ n, 80 + 4 * m ≤ n → n ≤ 80 + 4 * m + 3 → Eqo σ' σ n) : BorAt σ' m b := by
  obtain ⟨h1, h2, h3, h4, h5⟩ := h
  have e0 := e (80 + 4 * m) (by omega) (by omega)
  have e1 := e (80 + 4 * m + 1) (by omega) (by omega)
  have e2 := e (80 + 4 * m + 2) (by omega) (by omega)
  have e3 := e (80 + 4 * m + 3) (by omega) (by omega)
  refine ⟨(wx_kp e1).trans h1, (wy_kp e1).trans h2, (wt_kp e0).trans h3, (e0.1 4).trans h4, fun i p hp => ?_⟩
  rw [wk_kp e2, wh_kp e3]
  exact h5 i p hp
theorem Sg.k38 {τ σ σ' : rS} {B : List tB} (h : Sg τ σ B) (k : Kp (fun n => n = 38) σ σ') : Sg τ σ' B := by
  obtain ⟨h1, h2, h3, h4, h5⟩ := h
  have e1 := k.1 1 (by omega)
  refine ⟨h1.tr (k.mono (fun n z => by omega)), (e1.1 1).trans h2, (e1.1 2).trans h3, h4, fun j b hb => ?_⟩
  exact ⟨(h5 j b hb).1.kp (fun n a b => k.1 n (by omega)), (h5 j b hb).2⟩
theorem Sg.sum {τ σ : rS} {B : List tB} (h : Sg τ σ B) : σ.1 1 1 + σ.1 1 2 = nI (wn τ + B.length) := by rw [h.2.1, h.2.2.1]; exact kadd _ _
theorem Sg.old {τ σ : rS} {B : List tB} (h : Sg τ σ B) {k : Nat} (hk : k < wn τ) : wx σ k = wx τ k ∧ wy σ k = wy τ k := by
  have h4 := h.2.2.2.1
  have e := h.1.1 (80 + 4 * k + 1) (by omega)
  exact ⟨wx_kp e, wy_kp e⟩
theorem Sg.rng {τ σ : rS} {B : List tB} (hB : VB τ) (h : Sg τ σ B) : ∀ k, k < wn τ + B.length → okR (-1000) 1000 (wx σ k) ∧ okR (-1000) 1000 (wy σ k) := by
  intro k hk
  by_cases z : k < wn τ
  · obtain ⟨e1, e2⟩ := h.old z
    rw [e1, e2]
    have := hB.2.2.2.1 k z
    exact ⟨this.1, this.2.1⟩
  · obtain ⟨b, hb⟩ : ∃ b, B[k - wn τ]? = some b := ⟨_, List.getElem?_eq_getElem (by omega)⟩
    have q := h.2.2.2.2 (k - wn τ) b hb
    have e : wn τ + (k - wn τ) = k := by omega
    rw [e] at q
    rw [q.1.1, q.1.2.1]
    exact ⟨q.2.1, q.2.2.1⟩
theorem Sg.tks {τ σ : rS} {B : List tB} (h : Sg τ σ B) (x y : Int32) : (ff (tkB σ x y) (wn τ + B.length) 0 = none) ↔ tk τ B x y = false := by
  have n1 : (tkn τ x y = false) ↔ ∀ j, j < wn τ → ¬ (wx τ j = x ∧ wy τ j = y) := by
    unfold tkn
    rw [Option.isSome_eq_false_iff, Option.isNone_iff_eq_none, ff_none]
    refine ⟨fun z j hj => ?_, fun z j _ hj => ?_⟩
    · have := z j (by omega) (by omega)
      unfold tkB at this
      exact of_decide_eq_false this
    · unfold tkB
      exact decide_eq_false (z j (by omega))
  have n2 : (B.any (fun b => decide (b.1 = x ∧ b.2.1 = y)) = false) ↔ ∀ (j : Nat) (b : tB), B[j]? = some b → ¬ (b.1 = x ∧ b.2.1 = y) := by
    rw [List.any_eq_false]
    refine ⟨fun z j b hb q => z b (List.mem_of_getElem? hb) (decide_eq_true q), fun z b hb q => ?_⟩
    obtain ⟨j, hj⟩ := List.getElem?_of_mem hb
    exact z j b hj (of_decide_eq_true q)
  have d : tk τ B x y = (tkn τ x y || B.any (fun b => decide (b.1 = x ∧ b.2.1 = y))) := rfl
  rw [d]
  clear d
  rw [Bool.or_eq_false_iff, n1, n2, ff_none]
  refine ⟨fun z => ⟨fun j hj => ?_, fun j b hb => ?_⟩, fun z j _ hj => ?_⟩
  · have q := z j (by omega) (by omega)
    unfold tkB at q
    have e := h.old hj
    rw [e.1, e.2] at q
    exact of_decide_eq_false q
  · have lt : j < B.length := (List.getElem?_eq_some_iff.mp hb).1
    have q := z (wn τ + j) (by omega) (by omega)
    unfold tkB at q
    have e := (h.2.2.2.2 j b hb).1
    rw [e.1, e.2.1] at q
    exact of_decide_eq_false q
  · unfold tkB
    by_cases y : j < wn τ
    · have e := h.old y
      rw [e.1, e.2]
      exact decide_eq_false (z.1 j y)
    · obtain ⟨b, hb⟩ : ∃ b, B[j - wn τ]? = some b := ⟨_, List.getElem?_eq_getElem (by omega)⟩
      have q := h.2.2.2.2 (j - wn τ) b hb
      have e : wn τ + (j - wn τ) = j := by omega
      rw [e] at q
      rw [q.1.1, q.1.2.1]
      exact decide_eq_false (z.2 _ b hb)
theorem c_free {τ σ : rS} {B : List tB} (hB : VB τ) (h : Sg τ σ B) {x y : Int32} (hx : okR (-1000) 1000 x) (hy : okR (-1000) 1000 y) : ∃ v, fX2_numberAt x y σ = some (v, σ) ∧ (v = (-1) ↔ tk τ B x y = false) := by
  have l := h.2.2.2.1
  refine ⟨_, c_numAt h.sum l (h.rng hB) hx hy, ?_⟩
  rw [oI_1 (fun m hm => by have := (ff_some hm).2.1; omega)]
  exact h.tks x y
theorem c_stg {τ σ : rS} {B : List tB} (h : Sg τ σ B) (h16 : wn τ + B.length < 16) {x y t : Int32} (hx : okR (-1000) 1000 x) (hy : okR (-1000) 1000 y) (ht : okR (-100000) 100000 t) : ∃ σ', fX2_stage x y t σ = some ((), σ') ∧ Sg τ σ' (B ++ [(x, y, t, [])]) ∧ Eqo σ' σ 38 ∧ Eqo σ' σ 39 := by
  obtain ⟨h1, h2, h3, h4, h5⟩ := h
  have hs : σ.1 1 1 + σ.1 1 2 = nI (wn τ + B.length) := by rw [h2, h3]; exact kadd _ _
  have kp : Kp (oSt (wn τ)) σ (uI (addB σ (wn τ + B.length) x y t) 1 2 (nI (B.length + 1))) := by
    unfold addB
    exact ((Kp.uI (by omega)).tr (Kp.uI (by omega))).tr (((Kp.uI (by omega)).tr (Kp.uI (by omega))).tr (Kp.uI (by omega)))
  have z : ∀ n, n ≠ 1 → n ≠ 80 + 4 * (wn τ + B.length) → n ≠ 80 + 4 * (wn τ + B.length) + 1 → Eqo (uI (addB σ (wn τ + B.length) x y t) 1 2 (nI (B.length + 1))) σ n := fun n n1 n2 n3 => ⟨fun j => by rw [uI_ne n1, addB_o n j n2 n3], fun _ => rfl, fun _ => rfl⟩
  refine ⟨_, c_stage hs h3 h16 x y t, ⟨h1.tr kp, ?_, ?_, ?_, fun j b hb => ?_⟩, z 38 (by omega) (by omega) (by omega), z 39 (by omega) (by omega) (by omega)⟩
  · rw [uI_nj (by omega), addB_o 1 1 (by omega) (by omega)]; exact h2
  · rw [uI_eq, List.length_append]; rfl
  · rw [List.length_append]; exact h16
  · by_cases q : j < B.length
    · rw [List.getElem?_append_left q] at hb
      obtain ⟨b1, b2⟩ := h5 j b hb
      exact ⟨b1.kp (fun n a c => z n (by omega) (by omega) (by omega)), b2⟩
    · rw [List.getElem?_append_right (by omega)] at hb
      have e : j - B.length = 0 := by
        have := (List.getElem?_eq_some_iff.mp hb).1
        have : j - B.length < 1 := this
        omega
      rw [e] at hb
      have hb : some (x, y, t, []) = some b := hb
      cases hb
      have ej : j = B.length := by omega
      subst ej
      refine ⟨⟨?_, ?_, ?_, ?_, fun i p hp => by cases hp⟩, hx, hy, ht, Nat.zero_le _, fun i p hp => by cases hp⟩
      · show (uI (addB σ _ x y t) 1 2 _).1 _ 0 = x
        rw [uI_ne (by omega)]
        exact (addB_x (wn τ + B.length)).trans (if_pos rfl)
      · show (uI (addB σ _ x y t) 1 2 _).1 _ 1 = y
        rw [uI_ne (by omega)]
        exact (addB_y (wn τ + B.length)).trans (if_pos rfl)
      · show (uI (addB σ _ x y t) 1 2 _).1 _ 3 = t
        rw [uI_ne (by omega)]
        exact (addB_t (wn τ + B.length)).trans (if_pos rfl)
      · rw [uI_ne (by omega)]
        exact (addB_l4 (wn τ + B.length)).trans (if_pos rfl)
theorem c_lay1 {τ σ : rS} {B : List tB} {x y t : Int32} {ls : List (Int32 × Int32)} (h : Sg τ σ (B ++ [(x, y, t, ls)])) (h12 : ls.length < 12) {k v : Int32} (hk : okR 0 7 k) (hv : okR 1 10000 v) : ∃ σ', fX2_addLayerToStaged k v σ = some ((), σ') ∧ Sg τ σ' (B ++ [(x, y, t, ls ++ [(k, v)])]) ∧ Eqo σ' σ 38 ∧ Eqo σ' σ 39 := by
  have hs := h.sum
  obtain ⟨h1, h2, h3, h4, h5⟩ := h
  have ln : ∀ q : tB, (B ++ [q]).length = B.length + 1 := fun q => by rw [List.length_append]; rfl
  rw [ln] at hs h3 h4
  obtain ⟨⟨q1, q2, q3, q4, q5⟩, r1, r2, r3, r4, r5⟩ := h5 B.length (x, y, t, ls) (by rw [List.getElem?_append_right (Nat.le_refl _), Nat.sub_self]; rfl)
  have q4 : σ.1 (80 + 4 * (wn τ + B.length)) 4 = nI ls.length := q4
  have ca := c_addL (σ := σ) (b := wn τ + B.length) (by omega) q4 h12 k v
  have e1 : nI (wn τ + (B.length + 1)) - 1 = nI (wn τ + B.length) := ksub (b := 1) (by omega)
  have cf : fX2_addLayerToStaged k v σ = some ((), uI (uA (uA σ (80 + 4 * (wn τ + B.length) + 2) ls.length k) (80 + 4 * (wn τ + B.length) + 3) ls.length v) (80 + 4 * (wn τ + B.length)) 4 (nI (ls.length + 1))) := by
    unfold fX2_addLayerToStaged jX2_addLayerToStaged_28
    rw [if_neg (by rw [h3]; show ¬ nI _ ≤ nI 0; rw [kle (by omega) (by omega)]; omega), hs, e1, kinB (by omega), decide_eq_true (by omega), if_pos rfl, kc (by omega), if_pos (bo_ok (by omega)), ca, Option.bind_some]
  have kp : Kp (fun n => n = 80 + 4 * (wn τ + B.length) ∨ n = 80 + 4 * (wn τ + B.length) + 2 ∨ n = 80 + 4 * (wn τ + B.length) + 3) σ (uI (uA (uA σ (80 + 4 * (wn τ + B.length) + 2) ls.length k) (80 + 4 * (wn τ + B.length) + 3) ls.length v) (80 + 4 * (wn τ + B.length)) 4 (nI (ls.length + 1))) := ((Kp.uA (by omega)).tr (Kp.uA (by omega))).tr (Kp.uI (by omega))
  have z := kp.1
  refine ⟨_, cf, ⟨h1.tr (kp.mono (fun n w => by omega)), ?_, ?_, ?_, fun j b hb => ?_⟩, z 38 (by omega), z 39 (by omega)⟩
  · rw [(z 1 (by omega)).1]; exact h2
  · rw [(z 1 (by omega)).1, h3, ln]
  · rw [ln]; exact h4
  · by_cases q : j < B.length
    · have hb' := hb
      rw [List.getElem?_append_left q] at hb
      obtain ⟨b1, b2⟩ := h5 j b (by rw [List.getElem?_append_left q]; exact hb)
      exact ⟨b1.kp (fun n a c => z n (by omega)), b2⟩
    · rw [List.getElem?_append_right (by omega)] at hb
      have e : j - B.length = 0 := by
        have := (List.getElem?_eq_some_iff.mp hb).1
        have : j - B.length < 1 := this
        omega
      rw [e] at hb
      have hb : some (x, y, t, ls ++ [(k, v)]) = some b := hb
      cases hb
      have ej : j = B.length := by omega
      subst ej
      have l1 : (ls ++ [(k, v)]).length = ls.length + 1 := by rw [List.length_append]; rfl
      have sp : ∀ (i : Nat) (p : Int32 × Int32), (ls ++ [(k, v)])[i]? = some p → (i < ls.length ∧ ls[i]? = some p) ∨ (i = ls.length ∧ p = (k, v)) := fun i p hp => by
        by_cases w : i < ls.length
        · rw [List.getElem?_append_left w] at hp; exact Or.inl ⟨w, hp⟩
        · rw [List.getElem?_append_right (by omega)] at hp
          have e : i - ls.length = 0 := by
            have := (List.getElem?_eq_some_iff.mp hp).1
            have : i - ls.length < 1 := this
            omega
          rw [e] at hp
          have hp : some (k, v) = some p := hp
          exact Or.inr ⟨by omega, (Option.some.inj hp).symm⟩
      refine ⟨⟨?_, ?_, ?_, ?_, fun i p hp => ?_⟩, r1, r2, r3, ?_, fun i p hp => ?_⟩
      · exact (wx_kp (z _ (by omega))).trans q1
      · exact (wy_kp (z _ (by omega))).trans q2
      · show (uI _ _ 4 _).1 _ 3 = t
        rw [uI_nj (by omega)]; exact q3
      · show (uI _ _ 4 _).1 _ 4 = nI (ls ++ [(k, v)]).length
        rw [uI_eq, l1]
      · unfold wk wh
        rw [uI_2, uA_ne (by omega)]
        rcases sp i p hp with ⟨w1, w2⟩ | ⟨w1, w2⟩
        · rw [uA_nj (by omega), uA_nj (by omega), uA_ne (by omega)]
          exact q5 i p w2
        · rw [w1, w2, uA_eq, uA_eq]
          exact ⟨rfl, rfl⟩
      · show (ls ++ [(k, v)]).length ≤ 12
        omega
      · rcases sp i p hp with ⟨w1, w2⟩ | ⟨w1, w2⟩
        · exact r5 i p w2
        · rw [w2]; exact ⟨hk, hv⟩
