/-! GEOMETRY: ways between places that meet in places alone: at most 3 n - 6 of them, and at most 2 n - 5 bare triangles. -/
def gO (X Y : Nat → Int) (a b c : Nat) : Int := (X b - X a) * (Y c - Y a) - (Y b - Y a) * (X c - X a)
def gD (X Y : Nat → Int) (e f : Nat × Nat) (p : Nat) : Int := gO X Y e.1 e.2 p * (X f.2 - X f.1) - gO X Y f.1 f.2 p * (X e.2 - X e.1)
theorem gO_l (X Y : Nat → Int) (a b : Nat) : gO X Y a b a = 0 := by unfold gO; grind
theorem gO_r (X Y : Nat → Int) (a b : Nat) : gO X Y a b b = 0 := by unfold gO; grind
theorem gO_sw (X Y : Nat → Int) (a v b : Nat) : gO X Y b v a = - gO X Y a v b := by unfold gO; grind
theorem gO_cy (X Y : Nat → Int) (a b c : Nat) : gO X Y b c a = gO X Y a b c := by unfold gO; grind
theorem gO_tr (X Y : Nat → Int) (a b c v : Nat) : (X v - X c) * gO X Y a v b + (X v - X a) * gO X Y b v c = (X v - X b) * gO X Y a v c := by unfold gO; grind
theorem gD_sw (X Y : Nat → Int) (e f : Nat × Nat) (p : Nat) : gD X Y f e p = - gD X Y e f p := by unfold gD; grind
theorem gD_aff (X Y : Nat → Int) (e f : Nat × Nat) (p l r : Nat) : gD X Y e f p * (X r - X l) = gD X Y e f l * (X r - X p) + gD X Y e f r * (X p - X l) := by unfold gD gO; grind
theorem z_pos {a b : Int} (h : 0 < a * b) (hb : 0 < b) : 0 < a := by
  refine Classical.byContradiction fun z => ?_
  have := Int.mul_nonneg (a := -a) (b := b) (by omega) (by omega)
  rw [Int.neg_mul] at this
  omega
theorem z_nn {a b : Int} (h : 0 ≤ a * b) (hb : 0 < b) : 0 ≤ a := by
  refine Classical.byContradiction fun z => ?_
  have := Int.mul_pos (a := -a) (b := b) (by omega) hb
  rw [Int.neg_mul] at this
  omega
theorem z_np {a b : Int} (h : a * b ≤ 0) (hb : 0 < b) : a ≤ 0 := by
  have := z_nn (a := -a) (b := b) (by rw [Int.neg_mul]; omega) hb
  omega
theorem z_ng {a b : Int} (h : a * b < 0) (hb : 0 < b) : a < 0 := by
  have := z_pos (a := -a) (b := b) (by rw [Int.neg_mul]; omega) hb
  omega
def gNet (X Y : Nat → Int) (n : Nat) (E : List (Nat × Nat)) : Prop :=
  (∀ a b, a < n → b < n → X a = X b → a = b) ∧
  (∀ e ∈ E, e.1 < n ∧ e.2 < n ∧ X e.1 < X e.2) ∧
  (∀ e ∈ E, ∀ w, w < n → X e.1 < X w → X w < X e.2 → gO X Y e.1 e.2 w ≠ 0) ∧
  (∀ e ∈ E, ∀ f ∈ E, ∀ l, (l = e.1 ∨ l = f.1) → ∀ r, (r = e.2 ∨ r = f.2) → X e.1 ≤ X l → X f.1 ≤ X l → X r ≤ X e.2 → X r ≤ X f.2 → X l < X r → ¬ (gD X Y e f l < 0 ∧ 0 < gD X Y e f r))
/-- the way f is above the way e wherever both are -/
def gAb (X Y : Nat → Int) (e f : Nat × Nat) : Prop := ∀ p, X e.1 ≤ X p → X f.1 ≤ X p → X p ≤ X e.2 → X p ≤ X f.2 → 0 ≤ gD X Y e f p
section Geo
variable {X Y : Nat → Int} {n : Nat} {E : List (Nat × Nat)}
theorem gCmp (h : gNet X Y n E) {e f : Nat × Nat} (he : e ∈ E) (hf : f ∈ E) (o1 : X e.1 < X f.2) (o2 : X f.1 < X e.2) : gAb X Y e f ∨ gAb X Y f e := by
  obtain ⟨h1, h2, h3, h4⟩ := h
  have he2 := h2 e he
  have hf2 := h2 f hf
  obtain ⟨l, hl, l1, l2⟩ : ∃ l, (l = e.1 ∨ l = f.1) ∧ X e.1 ≤ X l ∧ X f.1 ≤ X l := by
    by_cases z : X e.1 ≤ X f.1
    · exact ⟨f.1, Or.inr rfl, z, Int.le_refl _⟩
    · exact ⟨e.1, Or.inl rfl, Int.le_refl _, by omega⟩
  obtain ⟨r, hr, r1, r2⟩ : ∃ r, (r = e.2 ∨ r = f.2) ∧ X r ≤ X e.2 ∧ X r ≤ X f.2 := by
    by_cases z : X e.2 ≤ X f.2
    · exact ⟨e.2, Or.inl rfl, Int.le_refl _, z⟩
    · exact ⟨f.2, Or.inr rfl, by omega, Int.le_refl _⟩
  have hlr : X l < X r := by
    rcases hl with rfl | rfl <;> rcases hr with rfl | rfl <;> omega
  have k1 := h4 e he f hf l hl r hr l1 l2 r1 r2 hlr
  have k2 := h4 f hf e he l hl.symm r hr.symm l2 l1 r2 r1 hlr
  rw [gD_sw X Y e f, gD_sw X Y e f] at k2
  have main : ∀ p, X e.1 ≤ X p → X f.1 ≤ X p → X p ≤ X e.2 → X p ≤ X f.2 → X l ≤ X p ∧ X p ≤ X r := by
    intro p a b c d
    constructor
    · rcases hl with rfl | rfl <;> assumption
    · rcases hr with rfl | rfl <;> assumption
  by_cases z : 0 ≤ gD X Y e f l ∧ 0 ≤ gD X Y e f r
  · refine Or.inl fun p a b c d => ?_
    obtain ⟨m1, m2⟩ := main p a b c d
    refine z_nn (b := X r - X l) ?_ (by omega)
    rw [gD_aff]
    have := Int.mul_nonneg z.1 (show 0 ≤ X r - X p by omega)
    have := Int.mul_nonneg z.2 (show 0 ≤ X p - X l by omega)
    omega
  · have z2 : 0 ≤ gD X Y f e l ∧ 0 ≤ gD X Y f e r := by
      rw [gD_sw X Y e f, gD_sw X Y e f]
      omega
    refine Or.inr fun p b a d c => ?_
    obtain ⟨m1, m2⟩ := main p a b c d
    refine z_nn (b := X r - X l) ?_ (by omega)
    rw [gD_aff]
    have := Int.mul_nonneg z2.1 (show 0 ≤ X r - X p by omega)
    have := Int.mul_nonneg z2.2 (show 0 ≤ X p - X l by omega)
    omega
theorem gAb.eR {e f : Nat × Nat} (h : gAb X Y e f) (he : X e.1 < X e.2) (o2 : X f.1 ≤ X e.2) (z : X e.2 ≤ X f.2) : gO X Y f.1 f.2 e.2 ≤ 0 := by
  have := h e.2 (by omega) o2 (Int.le_refl _) z
  unfold gD at this
  rw [gO_r] at this
  exact z_np (b := X e.2 - X e.1) (by omega) (by omega)
theorem gAb.fR {e f : Nat × Nat} (h : gAb X Y e f) (hf : X f.1 < X f.2) (o1 : X e.1 ≤ X f.2) (z : X f.2 ≤ X e.2) : 0 ≤ gO X Y e.1 e.2 f.2 := by
  have := h f.2 o1 (by omega) z (Int.le_refl _)
  unfold gD at this
  rw [gO_r] at this
  exact z_nn (b := X f.2 - X f.1) (by omega) (by omega)
theorem gAb.eL {e f : Nat × Nat} (h : gAb X Y e f) (he : X e.1 < X e.2) (o2 : X e.1 ≤ X f.2) (z : X f.1 ≤ X e.1) : gO X Y f.1 f.2 e.1 ≤ 0 := by
  have := h e.1 (Int.le_refl _) z (by omega) o2
  unfold gD at this
  rw [gO_l] at this
  exact z_np (b := X e.2 - X e.1) (by omega) (by omega)
theorem gAb.fL {e f : Nat × Nat} (h : gAb X Y e f) (hf : X f.1 < X f.2) (o1 : X f.1 ≤ X e.2) (z : X e.1 ≤ X f.1) : 0 ≤ gO X Y e.1 e.2 f.1 := by
  have := h f.1 z (Int.le_refl _) o1 (by omega)
  unfold gD at this
  rw [gO_l] at this
  exact z_nn (b := X f.2 - X f.1) (by omega) (by omega)
theorem gAb.up {e f : Nat × Nat} (h : gAb X Y e f) (he : X e.1 < X e.2) (hf : X f.1 < X f.2) {x : Nat} (a : X e.1 ≤ X x) (b : X f.1 ≤ X x) (c : X x ≤ X e.2) (d : X x ≤ X f.2) (hx : 0 < gO X Y f.1 f.2 x) : 0 < gO X Y e.1 e.2 x := by
  have := h x a b c d
  unfold gD at this
  have := Int.mul_pos hx (show 0 < X e.2 - X e.1 by omega)
  exact z_pos (b := X f.2 - X f.1) (by omega) (by omega)
/-- the next way above (u, v) among those that end in v from the left -/
def gNext (X Y : Nat → Int) (E : List (Nat × Nat)) (e : Nat × Nat) (u' : Nat) : Prop := (u', e.2) ∈ E ∧ 0 < gO X Y e.1 e.2 u' ∧ ∀ w, (w, e.2) ∈ E → 0 < gO X Y e.1 e.2 w → 0 ≤ gO X Y u' e.2 w
def gW (X Y : Nat → Int) (n : Nat) (e : Nat × Nat) (u' x : Nat) : Prop := x < n ∧ X x < X e.2 ∧ 0 ≤ gO X Y e.1 e.2 x ∧ gO X Y u' e.2 x ≤ 0
/-- what the wedge above the way e is charged to -/
def gCh (X Y : Nat → Int) (n : Nat) (E : List (Nat × Nat)) (e : Nat × Nat) (x : Nat) (s : Bool) : Prop := ∃ u', gNext X Y E e u' ∧ gW X Y n e u' x ∧ (∀ z, gW X Y n e u' z → X z ≤ X x) ∧ (s = true ↔ x = e.1)
theorem gCh.facts (h : gNet X Y n E) {e : Nat × Nat} (he : e ∈ E) {x : Nat} {u' : Nat} (hN : gNext X Y E e u') (hW : gW X Y n e u' x) (hm : ∀ z, gW X Y n e u' z → X z ≤ X x) : X e.1 ≤ X x ∧ X u' ≤ X x ∧ X u' < X e.2 ∧ e.1 ≠ u' ∧ (x ≠ e.1 → X e.1 < X x ∧ 0 < gO X Y e.1 e.2 x) ∧ (x = e.1 → X u' < X x ∧ gO X Y u' e.2 x < 0) := by
  obtain ⟨h1, h2, h3, h4⟩ := h
  have he2 := h2 e he
  have hu2 := h2 _ hN.1
  have hne : e.1 ≠ u' := fun z => by
    have := hN.2.1
    rw [← z, gO_l] at this
    omega
  have g1 := hm e.1 ⟨he2.1, he2.2.2, by rw [gO_l]; exact Int.le_refl _, by rw [gO_sw]; have := hN.2.1; omega⟩
  have g2 := hm u' ⟨hu2.1, hu2.2.2, by have := hN.2.1; omega, by rw [gO_l]; exact Int.le_refl _⟩
  refine ⟨g1, g2, hu2.2.2, hne, fun z => ?_, fun z => ?_⟩
  · have hlt : X e.1 < X x := by
      rcases Int.lt_or_eq_of_le g1 with q | q
      · exact q
      · exact absurd (h1 _ _ he2.1 hW.1 q).symm z
    have := h3 e he x hW.1 hlt hW.2.1
    have := hW.2.2.1
    exact ⟨hlt, by omega⟩
  · subst z
    have hlt : X u' < X e.1 := by
      rcases Int.lt_or_eq_of_le g2 with q | q
      · exact q
      · exact absurd (h1 _ _ hu2.1 he2.1 q).symm hne
    exact ⟨hlt, by rw [gO_sw]; have := hN.2.1; omega⟩
theorem gInjB1 (h : gNet X Y n E) {e f : Nat × Nat} (he : e ∈ E) (hf : f ∈ E) {x : Nat} (ce : gCh X Y n E e x false) (cf : gCh X Y n E f x false) (hab : gAb X Y e f) : e = f := by
  have h' := h
  obtain ⟨u', hN, hW, hm, hs⟩ := ce
  obtain ⟨w', hN2, hW2, hm2, hs2⟩ := cf
  have q1 := gCh.facts h he hN hW hm
  have q2 := gCh.facts h hf hN2 hW2 hm2
  obtain ⟨h1, h2, h3, h4⟩ := h
  have he2 := h2 e he
  have hf2 := h2 f hf
  have hu2 := h2 _ hN.1
  have xe := q1.2.2.2.2.1 (fun z => by have := hs.mpr z; cases this)
  have xf := q2.2.2.2.2.1 (fun z => by have := hs2.mpr z; cases this)
  have hxe := hW.2.1
  have hxf := hW2.2.1
  refine Classical.byContradiction fun hne => ?_
  -- the way above e, against f
  have hc := gCmp h' hN.1 hf (show X u' < X f.2 by omega) (show X f.1 < X e.2 by omega)
  have habf : gAb X Y f (u', e.2) := by
    rcases hc with hc | hc
    · have := hc.up (x := x) hu2.2.2 hf2.2.2 q1.2.1 (by omega) (by show X x ≤ X e.2; omega) (by omega) xf.2
      have := hW.2.2.2
      dsimp only at *
      omega
    · exact hc
  by_cases hv : e.2 = f.2
  · -- both end in v
    have a1 : 0 < gO X Y e.1 e.2 f.1 := by
      by_cases z : X e.1 ≤ X f.1
      · have := hab.fL hf2.2.2 (by omega) z
        rcases Int.lt_or_eq_of_le z with z | z
        · have := h3 e he f.1 hf2.1 z (by rw [hv]; omega)
          omega
        · exact absurd (Prod.ext (h1 _ _ he2.1 hf2.1 z) hv) hne
      · have := hab.eL he2.2.2 (by omega) (by omega)
        have := h3 f hf e.1 he2.1 (by omega) (by rw [← hv]; omega)
        rw [hv, gO_sw]
        omega
    have a2 := hN.2.2 f.1 (by rw [hv]; exact hf) a1
    have a3 : 0 < gO X Y f.1 e.2 x := by rw [hv]; exact xf.2
    have a4 : 0 ≤ gO X Y x e.2 u' := by
      rw [gO_sw]
      have := hW.2.2.2
      omega
    have tr := gO_tr X Y f.1 x u' e.2
    have m1 := Int.mul_pos (show 0 < X e.2 - X u' by omega) a3
    have m2 := Int.mul_nonneg (show 0 ≤ X e.2 - X f.1 by rw [hv]; omega) a4
    have a5 : 0 < gO X Y f.1 e.2 u' := z_pos (b := X e.2 - X x) (by rw [Int.mul_comm]; omega) (by omega)
    rw [gO_sw] at a5
    omega
  · rcases Int.lt_trichotomy (X e.2) (X f.2) with z | z | z
    · have a1 := hab.eR he2.2.2 (by omega) (by omega)
      have a2 := habf.fR (show X u' < X e.2 by omega) (by show X f.1 ≤ X e.2; omega) (by show X e.2 ≤ X f.2; omega)
      have a3 := h3 f hf e.2 he2.2.1 (by omega) z
      dsimp only at a2
      omega
    · exact hv (h1 _ _ he2.2.1 hf2.2.1 z)
    · have a1 := hab.fR hf2.2.2 (by omega) (by omega)
      have a2 := habf.eR hf2.2.2 (by show X u' ≤ X f.2; omega) (by show X f.2 ≤ X e.2; omega)
      have := hm f.2 ⟨hf2.2.1, z, a1, a2⟩
      omega
theorem gInjB (h : gNet X Y n E) {e f : Nat × Nat} (he : e ∈ E) (hf : f ∈ E) {x : Nat} (ce : gCh X Y n E e x false) (cf : gCh X Y n E f x false) : e = f := by
  have ce' := ce
  have cf' := cf
  obtain ⟨u', hN, hW, hm, hs⟩ := ce
  obtain ⟨w', hN2, hW2, hm2, hs2⟩ := cf
  have q1 := gCh.facts h he hN hW hm
  have q2 := gCh.facts h hf hN2 hW2 hm2
  have hxe := hW.2.1
  have hxf := hW2.2.1
  rcases gCmp h he hf (by omega) (by omega) with z | z
  · exact gInjB1 h he hf ce' cf' z
  · exact (gInjB1 h hf he cf' ce' z).symm
theorem gInjA1 (h : gNet X Y n E) {u v1 v2 u1' u2' : Nat} (he : (u, v1) ∈ E) (hf : (u, v2) ∈ E) (hN : gNext X Y E (u, v1) u1') (hN2 : gNext X Y E (u, v2) u2') (hm2 : ∀ z, gW X Y n (u, v2) u2' z → X z ≤ X u) (a1 : X u1' < X u) (a2 : gO X Y u1' v1 u < 0) (b1 : X u2' < X u) (hab : gAb X Y (u1', v1) (u2', v2)) : v1 = v2 := by
  have h' := h
  obtain ⟨h1, h2, h3, h4⟩ := h
  have he2 := h2 _ he
  have hf2 := h2 _ hf
  have hu1 := h2 _ hN.1
  have hu2 := h2 _ hN2.1
  dsimp only at *
  have hc : gAb X Y (u, v2) (u1', v1) := by
    rcases gCmp h' hf hN.1 (by show X u < X v1; omega) (by show X u1' < X v2; omega) with z | z
    · exact z
    · have := z.fL hf2.2.2 (by show X u ≤ X v1; omega) (by show X u1' ≤ X u; omega)
      dsimp only at this
      omega
  rcases Int.lt_trichotomy (X v1) (X v2) with z | z | z
  · have c1 := hab.eR hu1.2.2 (by show X u2' ≤ X v1; omega) (by show X v1 ≤ X v2; omega)
    have c2 := hc.fR hu1.2.2 (by show X u ≤ X v1; omega) (by show X v1 ≤ X v2; omega)
    have := hm2 v1 ⟨he2.2.1, z, c2, c1⟩
    omega
  · exact h1 _ _ he2.2.1 hf2.2.1 z
  · have c1 := hab.fR hu2.2.2 (by show X u1' ≤ X v2; omega) (by show X v2 ≤ X v1; omega)
    have c2 := hc.eR hf2.2.2 (by show X u1' ≤ X v2; omega) (by show X v2 ≤ X v1; omega)
    have c3 := h3 _ hN.1 v2 hf2.2.1 (by show X u1' < X v2; omega) (by show X v2 < X v1; omega)
    dsimp only at *
    omega
theorem gInjA (h : gNet X Y n E) {e f : Nat × Nat} (he : e ∈ E) (hf : f ∈ E) {x : Nat} (ce : gCh X Y n E e x true) (cf : gCh X Y n E f x true) : e = f := by
  obtain ⟨u, v1⟩ := e
  obtain ⟨u9, v2⟩ := f
  obtain ⟨u1', hN, hW, hm, hs⟩ := ce
  obtain ⟨u2', hN2, hW2, hm2, hs2⟩ := cf
  have e1 : x = u := hs.mp rfl
  have e2 : x = u9 := hs2.mp rfl
  subst e1
  subst e2
  have q1 := (gCh.facts h he hN hW hm).2.2.2.2.2 rfl
  have q2 := (gCh.facts h hf hN2 hW2 hm2).2.2.2.2.2 rfl
  have hxe := hW.2.1
  have hxf := hW2.2.1
  dsimp only at *
  rcases gCmp h hN.1 hN2.1 (by show X u1' < X v2; omega) (by show X u2' < X v1; omega) with z | z
  · rw [gInjA1 h he hf hN hN2 hm2 q1.1 q1.2 q2.1 z]
  · rw [gInjA1 h hf he hN2 hN hm q2.1 q2.2 q1.1 z]
end Geo
/-- a least one of a list, by a total order -/
theorem lst_min {α : Type} (le : α → α → Prop) : ∀ (l : List α), l ≠ [] → (∀ a ∈ l, ∀ b ∈ l, le a b ∨ le b a) → (∀ a ∈ l, ∀ b ∈ l, ∀ c ∈ l, le a b → le b c → le a c) → ∃ m ∈ l, ∀ w ∈ l, le m w
  | [], h, _, _ => absurd rfl h
  | [a], _, tot, _ => ⟨a, List.mem_cons_self, fun w hw => by
      rcases List.mem_cons.mp hw with rfl | hw
      · rcases tot w List.mem_cons_self w List.mem_cons_self with z | z <;> exact z
      · cases hw⟩
  | a :: b :: l, _, tot, tr => by
    obtain ⟨m, hm, hmin⟩ := lst_min le (b :: l) (List.cons_ne_nil _ _) (fun x hx y hy => tot x (List.mem_cons_of_mem _ hx) y (List.mem_cons_of_mem _ hy)) (fun x hx y hy z hz => tr x (List.mem_cons_of_mem _ hx) y (List.mem_cons_of_mem _ hy) z (List.mem_cons_of_mem _ hz))
    rcases tot a List.mem_cons_self m (List.mem_cons_of_mem _ hm) with z | z
    · refine ⟨a, List.mem_cons_self, fun w hw => ?_⟩
      rcases List.mem_cons.mp hw with rfl | hw
      · rcases tot w List.mem_cons_self w List.mem_cons_self with q | q <;> exact q
      · exact tr _ List.mem_cons_self _ (List.mem_cons_of_mem _ hm) _ (List.mem_cons_of_mem _ hw) z (hmin w hw)
    · refine ⟨m, List.mem_cons_of_mem _ hm, fun w hw => ?_⟩
      rcases List.mem_cons.mp hw with rfl | hw
      · exact z
      · exact hmin w hw
theorem lst_max (f : Nat → Int) (l : List Nat) (hl : l ≠ []) : ∃ m ∈ l, ∀ w ∈ l, f w ≤ f m := lst_min (fun a b => f b ≤ f a) l hl (fun a _ b _ => by omega) (fun a _ b _ c _ h1 h2 => by omega)
theorem nd_le : ∀ (m : Nat) (l : List Nat), l.Nodup → (∀ a ∈ l, a < m) → l.length ≤ m
  | 0, l, _, h => by
    cases l with
    | nil => exact Nat.le_refl _
    | cons a l => exact absurd (h a List.mem_cons_self) (by omega)
  | m + 1, l, hd, h => by
    by_cases hm : m ∈ l
    · have h1 := List.length_erase_of_mem hm
      have h2 := nd_le m (l.erase m) (hd.erase m) (fun a ha => by
        have := (hd.mem_erase_iff).mp ha
        have := h a this.2
        omega)
      omega
    · have := nd_le m l hd (fun a ha => by
        have := h a ha
        have : a ≠ m := fun z => hm (z ▸ ha)
        omega)
      omega
/-- one target for each of a list, no two the same -/
theorem lst_inj {α : Type} (R : α → Nat → Prop) : ∀ (l : List α), l.Nodup → (∀ a ∈ l, ∃ b, R a b) → (∀ a ∈ l, ∀ b ∈ l, ∀ c, R a c → R b c → a = b) → ∃ C : List Nat, C.length = l.length ∧ C.Nodup ∧ ∀ c ∈ C, ∃ a ∈ l, R a c
  | [], _, _, _ => ⟨[], rfl, List.nodup_nil, fun _ h => by cases h⟩
  | a :: l, hd, hex, hinj => by
    rw [List.nodup_cons] at hd
    obtain ⟨C, h1, h2, h3⟩ := lst_inj R l hd.2 (fun x hx => hex x (List.mem_cons_of_mem _ hx)) (fun x hx y hy => hinj x (List.mem_cons_of_mem _ hx) y (List.mem_cons_of_mem _ hy))
    obtain ⟨b, hb⟩ := hex a List.mem_cons_self
    refine ⟨b :: C, by simp [h1], ?_, fun c hc => ?_⟩
    · rw [List.nodup_cons]
      refine ⟨fun z => ?_, h2⟩
      obtain ⟨a2, ha2, hr⟩ := h3 b z
      have := hinj a List.mem_cons_self a2 (List.mem_cons_of_mem _ ha2) b hb hr
      exact hd.1 (this ▸ ha2)
    · rcases List.mem_cons.mp hc with rfl | hc
      · exact ⟨a, List.mem_cons_self, hb⟩
      · obtain ⟨a2, ha2, hr⟩ := h3 c hc
        exact ⟨a2, List.mem_cons_of_mem _ ha2, hr⟩
section Geo2
variable {X Y : Nat → Int} {n : Nat} {E : List (Nat × Nat)}
def gTop (X Y : Nat → Int) (E : List (Nat × Nat)) (e : Nat × Nat) : Prop := ∀ w, (w, e.2) ∈ E → gO X Y e.1 e.2 w ≤ 0
theorem gTop.inj (h : gNet X Y n E) {e f : Nat × Nat} (he : e ∈ E) (hf : f ∈ E) (te : gTop X Y E e) (tf : gTop X Y E f) (hv : e.2 = f.2) : e = f := by
  obtain ⟨u1, v⟩ := e
  obtain ⟨u2, v2⟩ := f
  dsimp only at hv
  subst hv
  obtain ⟨h1, h2, h3, h4⟩ := h
  have he2 := h2 _ he
  have hf2 := h2 _ hf
  have t1 := te u2 hf
  have t2 := tf u1 he
  dsimp only at *
  rw [gO_sw] at t2
  rcases Int.lt_trichotomy (X u1) (X u2) with z | z | z
  · have := h3 _ he u2 hf2.1 z hf2.2.2
    dsimp only at this
    omega
  · rw [h1 _ _ he2.1 hf2.1 z]
  · have := h3 _ hf u1 he2.1 z he2.2.2
    dsimp only at this
    rw [gO_sw] at this
    omega
theorem gCh.ex (h : gNet X Y n E) {e : Nat × Nat} (he : e ∈ E) (ht : ¬ gTop X Y E e) : ∃ x s, gCh X Y n E e x s := by
  have h' := h
  obtain ⟨h1, h2, h3, h4⟩ := h
  have he2 := h2 e he
  -- the next above
  let l : List Nat := ((E.filter (fun f => decide (f.2 = e.2 ∧ 0 < gO X Y e.1 e.2 f.1))).map (fun f => f.1))
  have hl : ∀ w, w ∈ l ↔ ((w, e.2) ∈ E ∧ 0 < gO X Y e.1 e.2 w) := by
    intro w
    constructor
    · intro hw
      obtain ⟨f, hf, rfl⟩ := List.mem_map.mp hw
      have := List.mem_filter.mp hf
      have q := of_decide_eq_true this.2
      refine ⟨?_, q.2⟩
      rw [← q.1]
      exact this.1
    · intro hw
      exact List.mem_map.mpr ⟨(w, e.2), List.mem_filter.mpr ⟨hw.1, decide_eq_true ⟨rfl, hw.2⟩⟩, rfl⟩
  have hne : l ≠ [] := by
    intro z
    refine ht fun w hw => ?_
    refine Classical.byContradiction fun q => ?_
    have := (hl w).mpr ⟨hw, by omega⟩
    rw [z] at this
    cases this
  obtain ⟨u', hu', hmin⟩ := lst_min (fun a b => 0 ≤ gO X Y a e.2 b) l hne (fun a ha b hb => by
    rw [gO_sw X Y a e.2 b]
    omega) (fun a ha b hb c hc z1 z2 => by
    have qa := h2 _ ((hl a).mp ha).1
    have qb := h2 _ ((hl b).mp hb).1
    have qc := h2 _ ((hl c).mp hc).1
    dsimp only at *
    have tr := gO_tr X Y a b c e.2
    have m1 := Int.mul_nonneg (show 0 ≤ X e.2 - X c by omega) z1
    have m2 := Int.mul_nonneg (show 0 ≤ X e.2 - X a by omega) z2
    exact z_nn (b := X e.2 - X b) (by rw [Int.mul_comm]; omega) (by omega))
  have hN : gNext X Y E e u' := ⟨((hl u').mp hu').1, ((hl u').mp hu').2, fun w hw z => hmin w ((hl w).mpr ⟨hw, z⟩)⟩
  -- the rightmost in the wedge
  let W : List Nat := (List.range n).filter (fun x => decide (X x < X e.2 ∧ 0 ≤ gO X Y e.1 e.2 x ∧ gO X Y u' e.2 x ≤ 0))
  have hW : ∀ x, x ∈ W ↔ gW X Y n e u' x := by
    intro x
    constructor
    · intro hx
      have := List.mem_filter.mp hx
      exact ⟨List.mem_range.mp this.1, of_decide_eq_true this.2⟩
    · intro hx
      exact List.mem_filter.mpr ⟨List.mem_range.mpr hx.1, decide_eq_true hx.2⟩
  have hWn : W ≠ [] := by
    intro z
    have : e.1 ∈ W := (hW _).mpr ⟨he2.1, he2.2.2, by rw [gO_l]; exact Int.le_refl _, by rw [gO_sw]; have := hN.2.1; omega⟩
    rw [z] at this
    cases this
  obtain ⟨x, hx, hmax⟩ := lst_max X W hWn
  exact ⟨x, decide (x = e.1), u', hN, (hW x).mp hx, fun z hz => hmax z ((hW z).mpr hz), by simp⟩
/-- some way goes above (true) or below (false) the place t -/
def gCov (X Y : Nat → Int) (E : List (Nat × Nat)) (t : Nat) (s : Bool) : Prop := ∃ f ∈ E, X f.1 < X t ∧ X t < X f.2 ∧ (if s = true then gO X Y f.1 f.2 t < 0 else 0 < gO X Y f.1 f.2 t)
theorem gCh.cov (h : gNet X Y n E) {e : Nat × Nat} (he : e ∈ E) {x : Nat} {s : Bool} (hc : gCh X Y n E e x s) : gCov X Y E x s ∧ x < n := by
  obtain ⟨u', hN, hW, hm, hs⟩ := hc
  have q := gCh.facts h he hN hW hm
  refine ⟨?_, hW.1⟩
  cases s with
  | true =>
    have := q.2.2.2.2.2 (hs.mp rfl)
    exact ⟨(u', e.2), hN.1, this.1, hW.2.1, by rw [if_pos rfl]; exact this.2⟩
  | false =>
    have := q.2.2.2.2.1 (fun z => by have := hs.mpr z; cases this)
    exact ⟨e, he, this.1, hW.2.1, by rw [if_neg (by decide)]; exact this.2⟩
theorem g_aff (X Y : Nat → Int) (p q a b t : Nat) : (X b - X a) * gO X Y p q t = (X b - X t) * gO X Y p q a + (X t - X a) * gO X Y p q b + (X q - X p) * gO X Y a b t := by unfold gO; grind
/-- with three places there is one, neither the first nor the last, that no way goes above, or that none goes below -/
theorem gShave (h : gNet X Y n E) {p q : Nat} (hp : p < n) (hq : q < n) (pm : ∀ z, z < n → X p ≤ X z) (qm : ∀ z, z < n → X z ≤ X q) (hpq : p ≠ q) (hn : 3 ≤ n) : ∃ t s, t < n ∧ t ≠ p ∧ t ≠ q ∧ ¬ gCov X Y E t s := by
  obtain ⟨h1, h2, h3, h4⟩ := h
  have hlt : X p < X q := by
    have := pm q hq
    rcases Int.lt_or_eq_of_le this with z | z
    · exact z
    · exact absurd (h1 _ _ hp hq z) hpq
  let I : List Nat := (List.range n).filter (fun x => decide (x ≠ p ∧ x ≠ q))
  have hI : ∀ x, x ∈ I ↔ (x < n ∧ x ≠ p ∧ x ≠ q) := by
    intro x
    constructor
    · intro hx
      have := List.mem_filter.mp hx
      exact ⟨List.mem_range.mp this.1, of_decide_eq_true this.2⟩
    · intro hx
      exact List.mem_filter.mpr ⟨List.mem_range.mpr hx.1, decide_eq_true hx.2⟩
  have hIn : I ≠ [] := by
    obtain ⟨x, hx1, hx2, hx3⟩ : ∃ x, x < n ∧ x ≠ p ∧ x ≠ q := by
      by_cases a0 : 0 ≠ p ∧ 0 ≠ q
      · exact ⟨0, by omega, a0.1, a0.2⟩
      · by_cases a1 : 1 ≠ p ∧ 1 ≠ q
        · exact ⟨1, by omega, a1.1, a1.2⟩
        · exact ⟨2, by omega, by omega, by omega⟩
    intro z
    have := (hI x).mpr ⟨hx1, hx2, hx3⟩
    rw [z] at this
    cases this
  have gp : gO X Y p q p = 0 := gO_l X Y p q
  have gq : gO X Y p q q = 0 := gO_r X Y p q
  obtain ⟨t, ht, hmax⟩ := lst_max (fun z => gO X Y p q z) I hIn
  have ht' := (hI t).mp ht
  by_cases z : 0 ≤ gO X Y p q t
  · refine ⟨t, true, ht'.1, ht'.2.1, ht'.2.2, ?_⟩
    rintro ⟨f, hf, f1, f2, f3⟩
    rw [if_pos rfl] at f3
    have hf2 := h2 f hf
    have bound : ∀ w, w < n → gO X Y p q w ≤ gO X Y p q t := by
      intro w hw
      by_cases a : w = p
      · rw [a, gp]; exact z
      · by_cases b : w = q
        · rw [b, gq]; exact z
        · exact hmax w ((hI w).mpr ⟨hw, a, b⟩)
    have af := g_aff X Y p q f.1 f.2 t
    have m1 := Int.mul_le_mul_of_nonneg_left (bound f.1 hf2.1) (show 0 ≤ X f.2 - X t by omega)
    have m2 := Int.mul_le_mul_of_nonneg_left (bound f.2 hf2.2.1) (show 0 ≤ X t - X f.1 by omega)
    have m3 := Int.mul_pos (show 0 < X q - X p by omega) (show 0 < - gO X Y f.1 f.2 t by omega)
    rw [Int.mul_neg] at m3
    have e1 : (X f.2 - X f.1) * gO X Y p q t = (X f.2 - X t) * gO X Y p q t + (X t - X f.1) * gO X Y p q t := by grind
    omega
  · obtain ⟨t2, ht2, hmin⟩ := lst_max (fun z => - gO X Y p q z) I hIn
    have ht2' := (hI t2).mp ht2
    have z2 : gO X Y p q t2 < 0 := by
      have := hmax t2 ht2
      (try dsimp only at this)
      omega
    refine ⟨t2, false, ht2'.1, ht2'.2.1, ht2'.2.2, ?_⟩
    rintro ⟨f, hf, f1, f2, f3⟩
    rw [if_neg (by decide)] at f3
    have hf2 := h2 f hf
    have bound : ∀ w, w < n → gO X Y p q t2 ≤ gO X Y p q w := by
      intro w hw
      by_cases a : w = p
      · rw [a, gp]; omega
      · by_cases b : w = q
        · rw [b, gq]; omega
        · have := hmin w ((hI w).mpr ⟨hw, a, b⟩)
          (try dsimp only at this)
          omega
    have af := g_aff X Y p q f.1 f.2 t2
    have m1 := Int.mul_le_mul_of_nonneg_left (bound f.1 hf2.1) (show 0 ≤ X f.2 - X t2 by omega)
    have m2 := Int.mul_le_mul_of_nonneg_left (bound f.2 hf2.2.1) (show 0 ≤ X t2 - X f.1 by omega)
    have m3 := Int.mul_pos (show 0 < X q - X p by omega) f3
    have e1 : (X f.2 - X f.1) * gO X Y p q t2 = (X f.2 - X t2) * gO X Y p q t2 + (X t2 - X f.1) * gO X Y p q t2 := by grind
    omega
theorem gEnds (h : gNet X Y n E) (hn : 3 ≤ n) : ∃ p q, p < n ∧ q < n ∧ p ≠ q ∧ (∀ z, z < n → X p ≤ X z) ∧ (∀ z, z < n → X z ≤ X q) := by
  have hr : List.range n ≠ [] := fun z => by
    have := congrArg List.length z
    rw [List.length_range] at this
    simp at this
    omega
  obtain ⟨q, hq, hq2⟩ := lst_max X (List.range n) hr
  obtain ⟨p, hp, hp2⟩ := lst_max (fun z => - X z) (List.range n) hr
  have qm : ∀ z, z < n → X z ≤ X q := fun z hz => hq2 z (List.mem_range.mpr hz)
  have pm : ∀ z, z < n → X p ≤ X z := fun z hz => by
    have := hp2 z (List.mem_range.mpr hz)
    (try dsimp only at this)
    omega
  refine ⟨p, q, List.mem_range.mp hp, List.mem_range.mp hq, fun z => ?_, pm, qm⟩
  subst z
  have a0 := pm 0 (by omega)
  have a1 := pm 1 (by omega)
  have b0 := qm 0 (by omega)
  have b1 := qm 1 (by omega)
  have := h.1 0 1 (by omega) (by omega) (by omega)
  omega
def bn (s : Bool) : Nat := if s = true then 1 else 0
theorem bn_lt (s : Bool) : bn s < 2 := by cases s <;> decide
theorem bn_inj {s t : Bool} (h : bn s = bn t) : s = t := by cases s <;> cases t <;> first | rfl | (exact absurd h (by decide))
theorem edges_le (h : gNet X Y n E) (hd : E.Nodup) (hn : 3 ≤ n) : E.length ≤ 3 * n - 6 := by
  obtain ⟨p, q, hp, hq, hpq, pm, qm⟩ := gEnds h hn
  obtain ⟨t, s, ht, htp, htq, hcov⟩ := gShave h hp hq pm qm hpq hn
  have hend : ∀ x s, gCov X Y E x s → x ≠ p ∧ x ≠ q ∧ ¬ (x = t ∧ s = s) ∨ (x ≠ p ∧ x ≠ q) := by
    rintro x s' ⟨f, hf, f1, f2, _⟩
    have hf2 := h.2.1 f hf
    have := pm f.1 hf2.1
    have := qm f.2 hf2.2.1
    exact Or.inr ⟨fun z => by rw [z] at f1; omega, fun z => by rw [z] at f2; omega⟩
  obtain ⟨C, c1, c2, c3⟩ := lst_inj (fun (e : Nat × Nat) c => (gTop X Y E e ∧ c = 3 * e.2 + 2) ∨ (¬ gTop X Y E e ∧ ∃ x s, gCh X Y n E e x s ∧ c = 3 * x + bn s)) E hd (fun e he => by
    by_cases z : gTop X Y E e
    · exact ⟨_, Or.inl ⟨z, rfl⟩⟩
    · obtain ⟨x, s, hx⟩ := gCh.ex h he z
      exact ⟨_, Or.inr ⟨z, x, s, hx, rfl⟩⟩) (fun e he f hf c a b => by
    rcases a with ⟨a1, a2⟩ | ⟨a1, x, s, a2, a3⟩
    · rcases b with ⟨b1, b2⟩ | ⟨b1, y, r, b2, b3⟩
      · exact gTop.inj h he hf a1 b1 (by omega)
      · have := bn_lt r
        omega
    · rcases b with ⟨b1, b2⟩ | ⟨b1, y, r, b2, b3⟩
      · have := bn_lt s
        omega
      · have := bn_lt r
        have := bn_lt s
        have e1 : x = y := by omega
        have e2 : s = r := bn_inj (by omega)
        subst e1
        subst e2
        cases s with
        | true => exact gInjA h he hf a2 b2
        | false => exact gInjB h he hf a2 b2)
  have key : ∀ c ∈ C, c < 3 * n ∧ c ≠ 3 * p ∧ c ≠ 3 * p + 1 ∧ c ≠ 3 * p + 2 ∧ c ≠ 3 * q ∧ c ≠ 3 * q + 1 ∧ c ≠ 3 * t + bn s := by
    intro c hc
    obtain ⟨e, he, hr⟩ := c3 c hc
    have he2 := h.2.1 e he
    have ht2 := bn_lt s
    rcases hr with ⟨r1, r2⟩ | ⟨r1, x, s', r2, r3⟩
    · have : e.2 ≠ p := fun z => by
        have := pm e.1 he2.1
        rw [z] at he2
        omega
      omega
    · have hcv := gCh.cov h he r2
      have := bn_lt s'
      have hxe := hend x s' hcv.1
      have : ¬ (x = t ∧ s' = s) := fun z => hcov (z.1 ▸ z.2 ▸ hcv.1)
      have : ¬ (3 * x + bn s' = 3 * t + bn s) := fun z => this ⟨by omega, bn_inj (by omega)⟩
      omega
  have hb := bn_lt s
  have hnd : ((3 * p) :: (3 * p + 1) :: (3 * p + 2) :: (3 * q) :: (3 * q + 1) :: (3 * t + bn s) :: C).Nodup := by
    simp only [List.nodup_cons, List.mem_cons, not_or]
    refine ⟨⟨by omega, by omega, by omega, by omega, by omega, fun z => (key _ z).2.1 rfl⟩, ⟨by omega, by omega, by omega, by omega, fun z => (key _ z).2.2.1 rfl⟩, ⟨by omega, by omega, by omega, fun z => (key _ z).2.2.2.1 rfl⟩, ⟨by omega, by omega, fun z => (key _ z).2.2.2.2.1 rfl⟩, ⟨by omega, fun z => (key _ z).2.2.2.2.2.1 rfl⟩, fun z => (key _ z).2.2.2.2.2.2 rfl, c2⟩
  have := nd_le (3 * n) _ hnd (fun a ha => by
    simp only [List.mem_cons] at ha
    rcases ha with rfl | rfl | rfl | rfl | rfl | rfl | ha
    · omega
    · omega
    · omega
    · omega
    · omega
    · omega
    · exact (key a ha).1)
  simp only [List.length_cons] at this
  omega
end Geo2
section Geo3
variable {X Y : Nat → Int} {n : Nat} {E : List (Nat × Nat)}
/-- a bare triangle, by its places from left to right; s: the middle one is below the long way -/
def gTri (X Y : Nat → Int) (n : Nat) (E : List (Nat × Nat)) (u x v : Nat) (s : Bool) : Prop := (u, x) ∈ E ∧ (x, v) ∈ E ∧ (u, v) ∈ E ∧ (if s = true then gO X Y u v x < 0 else 0 < gO X Y u v x) ∧
  ∀ d, d < n → d ≠ u → d ≠ x → d ≠ v → ¬ ((0 ≤ gO X Y u x d ∧ 0 ≤ gO X Y x v d ∧ 0 ≤ gO X Y v u d) ∨ (gO X Y u x d ≤ 0 ∧ gO X Y x v d ≤ 0 ∧ gO X Y v u d ≤ 0))
theorem gO_rv (X Y : Nat → Int) (a b c : Nat) : gO X Y b a c = - gO X Y a b c := by unfold gO; grind
theorem gTri.cov {u x v : Nat} {s : Bool} (h : gNet X Y n E) (ht : gTri X Y n E u x v s) : gCov X Y E x s ∧ x < n := by
  obtain ⟨t1, t2, t3, t4, t5⟩ := ht
  have a1 := h.2.1 _ t1
  have a2 := h.2.1 _ t2
  exact ⟨⟨(u, v), t3, a1.2.2, a2.2.2, t4⟩, a1.2.1⟩
/-- two triangles on the lower side of one place: the way below is the same -/
theorem gTriB1 (h : gNet X Y n E) {x u1 v1 u2 v2 : Nat} (h1 : gTri X Y n E u1 x v1 false) (h2 : gTri X Y n E u2 x v2 false) (hab : gAb X Y (u1, v1) (u2, v2)) : u1 = u2 ∧ v1 = v2 := by
  have h' := h
  obtain ⟨p1, p2, p3, p4, p5⟩ := h1
  obtain ⟨q1, q2, q3, q4, q5⟩ := h2
  obtain ⟨k1, k2, k3, k4⟩ := h
  have a1 := k2 _ p1
  have a2 := k2 _ p2
  have a3 := k2 _ p3
  have b1 := k2 _ q1
  have b2 := k2 _ q2
  have b3 := k2 _ q3
  rw [if_neg (by decide)] at p4 q4
  dsimp only at *
  -- the upper ways of the first against the lower way of the second
  have c1 : gAb X Y (u2, v2) (x, v1) := by
    rcases gCmp h' q3 p2 (by show X u2 < X v1; omega) (by show X x < X v2; omega) with z | z
    · exact z
    · have := z.eL a2.2.2 (by show X x ≤ X v2; omega) (by show X u2 ≤ X x; omega)
      dsimp only at this
      omega
  have c2 : gAb X Y (u2, v2) (u1, x) := by
    rcases gCmp h' q3 p1 (by show X u2 < X x; omega) (by show X u1 < X v2; omega) with z | z
    · exact z
    · have := z.eR a1.2.2 (by show X u2 ≤ X x; omega) (by show X x ≤ X v2; omega)
      dsimp only at this
      omega
  have hv : v1 = v2 := by
    rcases Int.lt_trichotomy (X v1) (X v2) with z | z | z
    · have d1 := hab.eR a3.2.2 (by show X u2 ≤ X v1; omega) (by show X v1 ≤ X v2; omega)
      have d2 := c1.fR a2.2.2 (by show X u2 ≤ X v1; omega) (by show X v1 ≤ X v2; omega)
      have d3 := k3 _ q3 v1 a3.2.1 (by show X u2 < X v1; omega) (by show X v1 < X v2; omega)
      dsimp only at *
      omega
    · exact k1 _ _ a3.2.1 b3.2.1 z
    · have d1 := hab.fR b3.2.2 (by show X u1 ≤ X v2; omega) (by show X v2 ≤ X v1; omega)
      have d2 := c1.eR b3.2.2 (by show X x ≤ X v2; omega) (by show X v2 ≤ X v1; omega)
      dsimp only at *
      have d3 : gO X Y u1 x v2 ≤ 0 := by
        -- from below the upper right way and right of x
        have i1 : (X v1 - X u1) * gO X Y u1 x v2 = (X x - X u1) * gO X Y u1 v1 v2 - (X v2 - X u1) * gO X Y u1 v1 x := by unfold gO; grind
        have i2 : (X v1 - X x) * gO X Y u1 v1 v2 = (X v1 - X u1) * gO X Y x v1 v2 + (X v1 - X v2) * gO X Y u1 v1 x := by unfold gO; grind
        have m1 := Int.mul_nonneg (show 0 ≤ X v1 - X u1 by omega) (show 0 ≤ - gO X Y x v1 v2 by omega)
        rw [Int.mul_neg] at m1
        have i3 : (X v1 - X x) * gO X Y u1 v1 v2 ≤ (X v1 - X v2) * gO X Y u1 v1 x := by omega
        have m2 := Int.mul_nonneg (show 0 ≤ X v1 - X v2 by omega) (show 0 ≤ gO X Y u1 v1 x by omega)
        have m3 := Int.mul_le_mul_of_nonneg_right (show X v1 - X v2 ≤ X v1 - X x by omega) (show 0 ≤ gO X Y u1 v1 x by omega)
        have i4 : gO X Y u1 v1 v2 ≤ gO X Y u1 v1 x := by
          have : (gO X Y u1 v1 v2 - gO X Y u1 v1 x) * (X v1 - X x) ≤ 0 := by
            have e1 : (gO X Y u1 v1 v2 - gO X Y u1 v1 x) * (X v1 - X x) = (X v1 - X x) * gO X Y u1 v1 v2 - (X v1 - X x) * gO X Y u1 v1 x := by grind
            omega
          have := z_np this (by omega)
          omega
        have m4 := Int.mul_le_mul_of_nonneg_left i4 (show 0 ≤ X x - X u1 by omega)
        have m5 := Int.mul_le_mul_of_nonneg_right (show X x - X u1 ≤ X v2 - X u1 by omega) (show 0 ≤ gO X Y u1 v1 x by omega)
        refine z_np (b := X v1 - X u1) ?_ (by omega)
        rw [Int.mul_comm]
        omega
      have := p5 v2 b3.2.1 (fun z9 => by rw [z9] at z b2; omega) (fun z9 => by rw [z9] at b2; omega) (fun z9 => by rw [z9] at z; omega)
      refine absurd (Or.inr ⟨d3, d2, ?_⟩) this
      rw [gO_rv]
      omega
  subst hv
  refine ⟨?_, rfl⟩
  rcases Int.lt_trichotomy (X u1) (X u2) with z | z | z
  · have d1 := hab.fL b3.2.2 (by show X u2 ≤ X v1; omega) (by show X u1 ≤ X u2; omega)
    have d2 := c2.eL b3.2.2 (by show X u2 ≤ X x; omega) (by show X u1 ≤ X u2; omega)
    dsimp only at *
    have d3 : gO X Y x v1 u2 ≤ 0 := by
      have i1 : (X v1 - X u1) * gO X Y x v1 u2 = (X v1 - X x) * gO X Y u1 v1 u2 - (X v1 - X u2) * gO X Y u1 v1 x := by unfold gO; grind
      have i2 : (X x - X u1) * gO X Y u1 v1 u2 = (X v1 - X u1) * gO X Y u1 x u2 + (X u2 - X u1) * gO X Y u1 v1 x := by unfold gO; grind
      have m1 := Int.mul_nonneg (show 0 ≤ X v1 - X u1 by omega) (show 0 ≤ - gO X Y u1 x u2 by omega)
      rw [Int.mul_neg] at m1
      have m3 := Int.mul_le_mul_of_nonneg_right (show X u2 - X u1 ≤ X x - X u1 by omega) (show 0 ≤ gO X Y u1 v1 x by omega)
      have i4 : gO X Y u1 v1 u2 ≤ gO X Y u1 v1 x := by
        have : (gO X Y u1 v1 u2 - gO X Y u1 v1 x) * (X x - X u1) ≤ 0 := by
          have e1 : (gO X Y u1 v1 u2 - gO X Y u1 v1 x) * (X x - X u1) = (X x - X u1) * gO X Y u1 v1 u2 - (X x - X u1) * gO X Y u1 v1 x := by grind
          omega
        have := z_np this (by omega)
        omega
      have m4 := Int.mul_le_mul_of_nonneg_left i4 (show 0 ≤ X v1 - X x by omega)
      have m5 := Int.mul_le_mul_of_nonneg_right (show X v1 - X x ≤ X v1 - X u2 by omega) (show 0 ≤ gO X Y u1 v1 x by omega)
      refine z_np (b := X v1 - X u1) ?_ (by omega)
      rw [Int.mul_comm]
      omega
    have := p5 u2 b3.1 (fun z9 => by rw [z9] at z; omega) (fun z9 => by rw [z9] at b1; omega) (fun z9 => by rw [z9] at b3; omega)
    refine absurd (Or.inr ⟨d2, d3, ?_⟩) this
    rw [gO_rv]
    omega
  · exact k1 _ _ a3.1 b3.1 z
  · have d1 := hab.eL a3.2.2 (by show X u1 ≤ X v1; omega) (by show X u2 ≤ X u1; omega)
    have d2 := c2.fL a1.2.2 (by show X u1 ≤ X v1; omega) (by show X u2 ≤ X u1; omega)
    have d3 := k3 _ q3 u1 a3.1 (by show X u2 < X u1; omega) (by show X u1 < X v1; omega)
    dsimp only at *
    omega
theorem gTriB (h : gNet X Y n E) {x u1 v1 u2 v2 : Nat} (h1 : gTri X Y n E u1 x v1 false) (h2 : gTri X Y n E u2 x v2 false) : u1 = u2 ∧ v1 = v2 := by
  have a1 := h.2.1 _ h1.1
  have a2 := h.2.1 _ h1.2.1
  have b1 := h.2.1 _ h2.1
  have b2 := h.2.1 _ h2.2.1
  dsimp only at *
  rcases gCmp h h1.2.2.1 h2.2.2.1 (by show X u1 < X v2; omega) (by show X u2 < X v1; omega) with z | z
  · exact gTriB1 h h1 h2 z
  · have := gTriB1 h h2 h1 z
    exact ⟨this.1.symm, this.2.symm⟩
/-- upside down -/
theorem gO_ng (X Y : Nat → Int) (a b c : Nat) : gO X (fun k => - Y k) a b c = - gO X Y a b c := by unfold gO; grind
theorem gD_ng (X Y : Nat → Int) (e f : Nat × Nat) (p : Nat) : gD X (fun k => - Y k) e f p = - gD X Y e f p := by unfold gD; rw [gO_ng, gO_ng]; grind
theorem gNet.ng (h : gNet X Y n E) : gNet X (fun k => - Y k) n E := by
  obtain ⟨h1, h2, h3, h4⟩ := h
  refine ⟨h1, h2, fun e he w a b c => ?_, fun e he f hf l hl r hr a b c d hlr => ?_⟩
  · rw [gO_ng]
    have := h3 e he w a b c
    omega
  · rw [gD_ng, gD_ng]
    have := h4 f hf e he l hl.symm r hr.symm b a d c hlr
    rw [gD_sw X Y e f, gD_sw X Y e f] at this
    exact this
theorem gTri.ng {u x v : Nat} (h : gTri X Y n E u x v true) : gTri X (fun k => - Y k) n E u x v false := by
  obtain ⟨p1, p2, p3, p4, p5⟩ := h
  refine ⟨p1, p2, p3, ?_, fun d a b c e z => p5 d a b c e ?_⟩
  · rw [if_neg (by decide), gO_ng]
    rw [if_pos rfl] at p4
    omega
  · simp only [gO_ng] at z
    omega
theorem gTri.inj (h : gNet X Y n E) {x u1 v1 u2 v2 : Nat} {s : Bool} (h1 : gTri X Y n E u1 x v1 s) (h2 : gTri X Y n E u2 x v2 s) : u1 = u2 ∧ v1 = v2 := by
  cases s with
  | false => exact gTriB h h1 h2
  | true => exact gTriB h.ng h1.ng h2.ng
theorem tris_le (h : gNet X Y n E) {T : List (Nat × Nat × Nat)} (hd : T.Nodup) (hn : 3 ≤ n) (hT : ∀ t ∈ T, ∃ s, gTri X Y n E t.1 t.2.1 t.2.2 s) : T.length ≤ 2 * n - 5 := by
  obtain ⟨p, q, hp, hq, hpq, pm, qm⟩ := gEnds h hn
  obtain ⟨t, s, ht, htp, htq, hcov⟩ := gShave h hp hq pm qm hpq hn
  obtain ⟨C, c1, c2, c3⟩ := lst_inj (fun (e : Nat × Nat × Nat) c => ∃ s, gTri X Y n E e.1 e.2.1 e.2.2 s ∧ c = 2 * e.2.1 + bn s) T hd (fun e he => by
    obtain ⟨s, hs⟩ := hT e he
    exact ⟨_, s, hs, rfl⟩) (fun e he f hf c a b => by
    obtain ⟨s, a1, a2⟩ := a
    obtain ⟨r, b1, b2⟩ := b
    obtain ⟨u1, x1, v1⟩ := e
    obtain ⟨u2, x2, v2⟩ := f
    have := bn_lt r
    have := bn_lt s
    dsimp only at *
    have e1 : x1 = x2 := by omega
    have e2 : s = r := bn_inj (by omega)
    subst e1
    subst e2
    obtain ⟨rfl, rfl⟩ := gTri.inj h a1 b1
    rfl)
  have key : ∀ c ∈ C, c < 2 * n ∧ c ≠ 2 * p ∧ c ≠ 2 * p + 1 ∧ c ≠ 2 * q ∧ c ≠ 2 * q + 1 ∧ c ≠ 2 * t + bn s := by
    intro c hc
    obtain ⟨e, he, s', r2, r3⟩ := c3 c hc
    have hcv := gTri.cov h r2
    have hcv' := hcv.1
    obtain ⟨f, hf, f1, f2, _⟩ := hcv.1
    have hf2 := h.2.1 f hf
    have w1 := pm f.1 hf2.1
    have w2 := qm f.2 hf2.2.1
    have := bn_lt s'
    have := bn_lt s
    have n1 : e.2.1 ≠ p := fun z => by rw [z] at f1; omega
    have n2 : e.2.1 ≠ q := fun z => by rw [z] at f2; omega
    have : ¬ (e.2.1 = t ∧ s' = s) := fun z => hcov (z.1 ▸ z.2 ▸ hcv')
    have : ¬ (2 * e.2.1 + bn s' = 2 * t + bn s) := fun z => this ⟨by omega, bn_inj (by omega)⟩
    have := hcv.2
    omega
  have hb := bn_lt s
  have hnd : ((2 * p) :: (2 * p + 1) :: (2 * q) :: (2 * q + 1) :: (2 * t + bn s) :: C).Nodup := by
    simp only [List.nodup_cons, List.mem_cons, not_or]
    refine ⟨⟨by omega, by omega, by omega, by omega, fun z => (key _ z).2.1 rfl⟩, ⟨by omega, by omega, by omega, fun z => (key _ z).2.2.1 rfl⟩, ⟨by omega, by omega, fun z => (key _ z).2.2.2.1 rfl⟩, ⟨by omega, fun z => (key _ z).2.2.2.2.1 rfl⟩, fun z => (key _ z).2.2.2.2.2 rfl, c2⟩
  have := nd_le (2 * n) _ hnd (fun a ha => by
    simp only [List.mem_cons] at ha
    rcases ha with rfl | rfl | rfl | rfl | rfl | ha
    · omega
    · omega
    · omega
    · omega
    · omega
    · exact (key a ha).1)
  simp only [List.length_cons] at this
  omega
end Geo3
