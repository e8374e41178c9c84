/-! THE EDGES, over whole numbers; there are at most 42. -/
def bareB (n : Nat) (p : Nat → zP) (a b : Nat) : Bool := !anyF (fun k => decide (k ≠ a ∧ k ≠ b) && onZ (p a) (p b) (p k)) n 0
def shB (a b : Nat) (e : Nat × Nat) : Bool := decide (a = e.1 ∨ a = e.2 ∨ b = e.1 ∨ b = e.2)
def freeE (p : Nat → zP) (a b : Nat) (E : List (Nat × Nat)) : Bool := E.all (fun e => shB a b e || !meetZ (p a) (p b) (p e.1) (p e.2))
def eK (x : Nat) : Nat × Nat := (x / 16 % 16, x % 16)
def nxE (n : Nat) (p : Nat → zP) (e : Nat × Nat) (E : List (Nat × Nat)) : List (Nat × Nat) := if (bareB n p e.1 e.2 && freeE p e.1 e.2 E) = true then E ++ [e] else E
def EL (n : Nat) (p : Nat → zP) (f : Nat → Nat) : Nat → List (Nat × Nat)
  | 0 => []
  | i + 1 => nxE n p (eK (f i)) (EL n p f i)
theorem anyF_f {p : Nat → Bool} {r k : Nat} : anyF p r k = false ↔ ∀ j, k ≤ j → j < k + r → p j = false := by
  rw [anyF_ff]
  rw [← ff_none]
  cases ff p r k <;> simp
/-- what a net of ways is -/
def netE (n : Nat) (p : Nat → zP) (E : List (Nat × Nat)) : Prop := E.Nodup ∧ (∀ e ∈ E, e.1 < e.2 ∧ e.2 < n ∧ bareB n p e.1 e.2 = true) ∧ ∀ e ∈ E, ∀ f ∈ E, shB e.1 e.2 f = true ∨ meetZ (p e.1) (p e.2) (p f.1) (p f.2) = false
theorem shB_sy (e f : Nat × Nat) : shB e.1 e.2 f = shB f.1 f.2 e := by
  unfold shB
  rw [decide_eq_decide]
  omega
theorem EL_net {n : Nat} {p : Nat → zP} {f : Nat → Nat} {m : Nat} (hn : n ≤ 16) (hf : incF f m) (hq : keyQ (allQ n) p f m) : ∀ i, i ≤ m → netE n p (EL n p f i) ∧ ∀ e ∈ EL n p f i, ∃ j, j < i ∧ f j = keyN p e.1 e.2 := by
  intro i
  induction i with
  | zero => exact fun _ => ⟨⟨List.nodup_nil, fun e he => (by cases he), fun e he => (by cases he)⟩, fun e he => (by cases he)⟩
  | succ i ih =>
    intro hi
    obtain ⟨⟨h1, h2, h3⟩, h4⟩ := ih (by omega)
    obtain ⟨a, b, ⟨hab, hbn⟩, hk⟩ := hq.1 i (by omega)
    have ek : eK (f i) = (a, b) := by
      have := keyN_d (p := p) (a := a) (b := b) (by omega) (by omega)
      unfold eK
      rw [hk, this.1, this.2]
    rw [EL, ek]
    unfold nxE
    by_cases c : (bareB n p (a, b).1 (a, b).2 && freeE p (a, b).1 (a, b).2 (EL n p f i)) = true
    · rw [if_pos c]
      rw [Bool.and_eq_true] at c
      obtain ⟨c1, c2⟩ := c
      have nm : (a, b) ∉ EL n p f i := fun z => by
        obtain ⟨j, hj, he⟩ := h4 _ z
        have := hf j i hj (by omega)
        rw [he, hk] at this
        exact Nat.lt_irrefl _ this
      have c3 : ∀ e ∈ EL n p f i, shB a b e = true ∨ meetZ (p a) (p b) (p e.1) (p e.2) = false := fun e he => by
        have := List.all_eq_true.mp c2 e he
        rw [Bool.or_eq_true] at this
        rcases this with z | z
        · exact Or.inl z
        · right; simpa using z
      have selfsh : shB a b (a, b) = true := by unfold shB; exact decide_eq_true (Or.inl rfl)
      refine ⟨⟨?_, ?_, ?_⟩, ?_⟩
      · rw [List.nodup_append]
        refine ⟨h1, by simp, fun x hx y hy => ?_⟩
        obtain rfl : y = (a, b) := by simpa using hy
        exact fun z => nm (z ▸ hx)
      · intro e he
        rcases List.mem_append.mp he with z | z
        · exact h2 e z
        · obtain rfl : e = (a, b) := by simpa using z
          exact ⟨hab, hbn, c1⟩
      · intro e he g hg
        rcases List.mem_append.mp he with z | z
        · rcases List.mem_append.mp hg with y | y
          · exact h3 e z g y
          · obtain rfl : g = (a, b) := by simpa using y
            rcases c3 e z with x | x
            · left; rw [shB_sy]; exact x
            · right; rw [meetZ_sy]; exact x
        · obtain rfl : e = (a, b) := by simpa using z
          rcases List.mem_append.mp hg with y | y
          · exact c3 g y
          · obtain rfl : g = (a, b) := by simpa using y
            exact Or.inl selfsh
      · intro e he
        rcases List.mem_append.mp he with z | z
        · obtain ⟨j, hj, hj2⟩ := h4 e z
          exact ⟨j, by omega, hj2⟩
        · obtain rfl : e = (a, b) := by simpa using z
          exact ⟨i, by omega, hk⟩
    · rw [if_neg c]
      refine ⟨⟨h1, h2, h3⟩, fun e he => ?_⟩
      obtain ⟨j, hj, hj2⟩ := h4 e he
      exact ⟨j, by omega, hj2⟩
/-- sheared: all places apart from left to right -/
def gX (p : Nat → zP) (k : Nat) : Int := 2001 * (p k).1 + (p k).2
def gY (p : Nat → zP) (k : Nat) : Int := (p k).2
theorem gO_tz (p : Nat → zP) (a b c : Nat) : gO (gX p) (gY p) a b c = 2001 * tz (p a) (p b) (p c) := by
  unfold gO gX gY tz
  grind
theorem gX_lt {p : Nat → zP} {a b : Nat} (ha : okZ (p a)) (hb : okZ (p b)) : gX p a < gX p b ↔ (p a).1 < (p b).1 ∨ ((p a).1 = (p b).1 ∧ (p a).2 < (p b).2) := by
  obtain ⟨⟨a1, a2⟩, a3, a4⟩ := ha
  obtain ⟨⟨b1, b2⟩, b3, b4⟩ := hb
  unfold gX
  omega
def oriE (p : Nat → zP) (e : Nat × Nat) : Nat × Nat := if gX p e.1 < gX p e.2 then e else (e.2, e.1)
theorem tz_sw (a b c : zP) : tz b a c = - tz a b c := by unfold tz; grind
theorem tz_cy (a b c : zP) : tz b c a = tz a b c := by unfold tz; grind
theorem onZ_sw (a b c : zP) : onZ b a c = onZ a b c := by
  unfold onZ btw
  rw [tz_sw a b c]
  have h1 : decide (-tz a b c = 0) = decide (tz a b c = 0) := by rw [decide_eq_decide]; omega
  have h2 : ∀ u v w : Int, decide ((u ≤ v ∧ v ≤ w) ∨ (w ≤ v ∧ v ≤ u)) = decide ((w ≤ v ∧ v ≤ u) ∨ (u ≤ v ∧ v ≤ w)) := fun u v w => by rw [decide_eq_decide]; omega
  rw [h1, h2, h2 b.2]
/-- between two on one line -/
theorem betw {x y u v : Int} (hx : 0 < x) (h0 : 0 ≤ u) (h1 : u ≤ x) (h : x * v = y * u) : (0 ≤ v ∧ v ≤ y) ∨ (y ≤ v ∧ v ≤ 0) := by
  rcases Int.le_total 0 y with c | c
  · left
    have e1 := Int.mul_nonneg c h0
    have e2 := Int.mul_nonneg c (show 0 ≤ x - u by omega)
    have e3 : y * (x - u) = x * (y - v) := by grind
    rw [e3] at e2
    rw [← h] at e1
    constructor
    · rcases Int.lt_or_le v 0 with z | z
      · have := Int.mul_neg_of_pos_of_neg hx z; omega
      · exact z
    · rcases Int.lt_or_le (y - v) 0 with z | z
      · have := Int.mul_neg_of_pos_of_neg hx z; omega
      · omega
  · right
    have e1 := Int.mul_nonneg (show 0 ≤ -y by omega) h0
    have e2 := Int.mul_nonneg (show 0 ≤ -y by omega) (show 0 ≤ x - u by omega)
    have e3 : -y * (x - u) = x * (v - y) := by grind
    have e4 : -y * u = x * (-v) := by grind
    rw [e3] at e2
    rw [e4] at e1
    constructor
    · rcases Int.lt_or_le (v - y) 0 with z | z
      · have := Int.mul_neg_of_pos_of_neg hx z; omega
      · omega
    · rcases Int.lt_or_le (-v) 0 with z | z
      · have := Int.mul_neg_of_pos_of_neg hx z; omega
      · omega
theorem on_of {p : Nat → zP} {a b w : Nat} (ha : okZ (p a)) (hb : okZ (p b)) (hw : okZ (p w)) (h1 : gX p a < gX p w) (h2 : gX p w < gX p b) (h0 : tz (p a) (p b) (p w) = 0) : onZ (p a) (p b) (p w) = true := by
  rw [gX_lt ha hw] at h1
  rw [gX_lt hw hb] at h2
  unfold onZ btw
  rw [decide_eq_true h0]
  unfold tz at h0
  have hx : ((p a).1 ≤ (p w).1 ∧ (p w).1 ≤ (p b).1) ∨ ((p b).1 ≤ (p w).1 ∧ (p w).1 ≤ (p a).1) := by omega
  have hy : ((p a).2 ≤ (p w).2 ∧ (p w).2 ≤ (p b).2) ∨ ((p b).2 ≤ (p w).2 ∧ (p w).2 ≤ (p a).2) := by
    by_cases c : (p a).1 = (p b).1
    · omega
    · have := betw (x := (p b).1 - (p a).1) (y := (p b).2 - (p a).2) (u := (p w).1 - (p a).1) (v := (p w).2 - (p a).2) (by omega) (by omega) (by omega) (by omega)
      omega
  rw [decide_eq_true hx, decide_eq_true hy]
  rfl
theorem gD_lin (X Y : Nat → Int) (e f : Nat × Nat) (q r : Nat) : gD X Y e f q - gD X Y e f r = ((Y f.2 - Y f.1) * (X e.2 - X e.1) - (Y e.2 - Y e.1) * (X f.2 - X f.1)) * (X q - X r) := by
  unfold gD gO
  grind
theorem posP {x y : Int} (h : 0 < x * y) (hy : 0 < y) : 0 < x := by
  rcases Int.lt_or_le 0 x with z | z
  · exact z
  · have := Int.mul_nonneg (show 0 ≤ -x by omega) (show 0 ≤ y by omega)
    have e : -x * y = -(x * y) := by grind
    omega
theorem negP {x y : Int} (h : x * y < 0) (hy : 0 < y) : x < 0 := by
  rcases Int.lt_or_le x 0 with z | z
  · exact z
  · have := Int.mul_nonneg z (show 0 ≤ y by omega)
    omega
/-- a crossing in the sheared plane is one of the two ways -/
theorem cross_of {X Y : Nat → Int} {e f : Nat × Nat} {l r : Nat} (he : X e.1 < X e.2) (hf : X f.1 < X f.2) (h1 : X e.1 ≤ X l) (h2 : X f.1 ≤ X l) (h3 : X r ≤ X e.2) (h4 : X r ≤ X f.2) (hlr : X l < X r) (hl : gD X Y e f l < 0) (hr : 0 < gD X Y e f r) : 0 < gO X Y f.1 f.2 e.1 ∧ gO X Y f.1 f.2 e.2 < 0 ∧ gO X Y e.1 e.2 f.1 < 0 ∧ 0 < gO X Y e.1 e.2 f.2 := by
  have L := fun q r => gD_lin X Y e f q r
  generalize hB : (Y f.2 - Y f.1) * (X e.2 - X e.1) - (Y e.2 - Y e.1) * (X f.2 - X f.1) = B at L
  have B0 : 0 < B := by
    have := L r l
    exact posP (y := X r - X l) (by rw [← this]; omega) (by omega)
  have d1 : gD X Y e f e.1 < 0 := by
    have := L l e.1
    have z := Int.mul_nonneg (show 0 ≤ B by omega) (show 0 ≤ X l - X e.1 by omega)
    omega
  have d2 : gD X Y e f f.1 < 0 := by
    have := L l f.1
    have z := Int.mul_nonneg (show 0 ≤ B by omega) (show 0 ≤ X l - X f.1 by omega)
    omega
  have d3 : 0 < gD X Y e f e.2 := by
    have := L e.2 r
    have z := Int.mul_nonneg (show 0 ≤ B by omega) (show 0 ≤ X e.2 - X r by omega)
    omega
  have d4 : 0 < gD X Y e f f.2 := by
    have := L f.2 r
    have z := Int.mul_nonneg (show 0 ≤ B by omega) (show 0 ≤ X f.2 - X r by omega)
    omega
  unfold gD at d1 d2 d3 d4
  rw [gO_l] at d1
  rw [gO_l] at d2
  rw [gO_r] at d3
  rw [gO_r] at d4
  refine ⟨posP (y := X e.2 - X e.1) (by omega) (by omega), negP (y := X e.2 - X e.1) (by omega) (by omega), negP (y := X f.2 - X f.1) (by omega) (by omega), posP (y := X f.2 - X f.1) (by omega) (by omega)⟩
theorem oriE_cases (p : Nat → zP) (e : Nat × Nat) : (oriE p e = e ∨ oriE p e = (e.2, e.1)) := by
  unfold oriE
  split
  · exact Or.inl rfl
  · exact Or.inr rfl
/-- no two ways of a net cross -/
theorem net_noX {n : Nat} {p : Nat → zP} {E : List (Nat × Nat)} (h : netE n p E) {e f : Nat × Nat} (he : e ∈ E) (hf : f ∈ E) : shB e.1 e.2 f = true ∨ ¬ (((tz (p e.1) (p e.2) (p f.1) < 0 ∧ 0 < tz (p e.1) (p e.2) (p f.2)) ∨ (0 < tz (p e.1) (p e.2) (p f.1) ∧ tz (p e.1) (p e.2) (p f.2) < 0)) ∧ ((tz (p f.1) (p f.2) (p e.1) < 0 ∧ 0 < tz (p f.1) (p f.2) (p e.2)) ∨ (0 < tz (p f.1) (p f.2) (p e.1) ∧ tz (p f.1) (p f.2) (p e.2) < 0))) := by
  rcases h.2.2 e he f hf with z | z
  · exact Or.inl z
  · right
    rintro ⟨y1, y2⟩
    unfold meetZ apZ at z
    rw [decide_eq_true y1, decide_eq_true y2] at z
    simp at z
theorem net_g {n : Nat} {p : Nat → zP} {E : List (Nat × Nat)} (hp : ∀ k, k < n → okZ (p k)) (hd : ∀ j k, j < n → k < n → p j = p k → j = k) (h : netE n p E) : gNet (gX p) (gY p) n (E.map (oriE p)) := by
  have inj : ∀ a b, a < n → b < n → gX p a = gX p b → a = b := fun a b ha hb hx => by
    apply hd a b ha hb
    obtain ⟨⟨a1, a2⟩, a3, a4⟩ := hp a ha
    obtain ⟨⟨b1, b2⟩, b3, b4⟩ := hp b hb
    unfold gX at hx
    exact Prod.ext (by omega) (by omega)
  have ori : ∀ e ∈ E, gX p (oriE p e).1 < gX p (oriE p e).2 := fun e he => by
    obtain ⟨h1, h2, _⟩ := h.2.1 e he
    unfold oriE
    by_cases c : gX p e.1 < gX p e.2
    · rw [if_pos c]; exact c
    · rw [if_neg c]
      have : gX p e.1 ≠ gX p e.2 := fun z => by
        have := inj _ _ (by omega) h2 z
        omega
      show gX p e.2 < gX p e.1
      omega
  refine ⟨inj, fun e' he' => ?_, fun e' he' w hw h1 h2 h0 => ?_, fun e' he' f' hf' l hl r hr a1 a2 a3 a4 a5 a6 => ?_⟩
  · obtain ⟨e, he, rfl⟩ := List.mem_map.mp he'
    obtain ⟨h1, h2, _⟩ := h.2.1 e he
    refine ⟨?_, ?_, ori e he⟩
    · rcases oriE_cases p e with z | z <;> rw [z] <;> omega
    · rcases oriE_cases p e with z | z <;> rw [z]
      · exact h2
      · show e.1 < n
        omega
  · obtain ⟨e, he, rfl⟩ := List.mem_map.mp he'
    obtain ⟨g1, g2, g3⟩ := h.2.1 e he
    rw [gO_tz] at h0
    have hb : ∀ a b, a < n → b < n → ((a, b) = e ∨ (b, a) = e) → gX p a < gX p w → gX p w < gX p b → tz (p a) (p b) (p w) = 0 → False := fun a b ha hb hab x1 x2 x3 => by
      have on := on_of (hp a ha) (hp b hb) (hp w hw) x1 x2 x3
      have on2 : onZ (p e.1) (p e.2) (p w) = true := by
        rcases hab with z | z
        · rw [← z]; exact on
        · rw [← z]
          show onZ (p b) (p a) (p w) = true
          rw [onZ_sw]; exact on
      have wa : w ≠ a := fun z => by rw [z] at x1; exact Int.lt_irrefl _ x1
      have wb : w ≠ b := fun z => by rw [z] at x2; exact Int.lt_irrefl _ x2
      have w1 : w ≠ e.1 ∧ w ≠ e.2 := by
        rcases hab with z | z
        · rw [← z]; exact ⟨wa, wb⟩
        · rw [← z]; exact ⟨wb, wa⟩
      unfold bareB at g3
      rw [Bool.not_eq_true'] at g3
      have := anyF_f.mp g3 w (by omega) (by omega)
      rw [decide_eq_true w1, on2] at this
      cases this
    rcases oriE_cases p e with z | z
    · rw [z] at h0 h1 h2
      exact hb e.1 e.2 (by omega) g2 (Or.inl rfl) h1 h2 (by omega)
    · rw [z] at h0 h1 h2
      exact hb e.2 e.1 g2 (by omega) (Or.inr rfl) h1 h2 (by dsimp only at h0; omega)
  · obtain ⟨e, he, rfl⟩ := List.mem_map.mp he'
    obtain ⟨f, hf, rfl⟩ := List.mem_map.mp hf'
    have oe := ori e he
    have of' := ori f hf
    obtain ⟨b1, b2, b3, b4⟩ := cross_of oe of' a1 a2 a3 a4 a5 a6.1 a6.2
    have ne1 : (oriE p e).1 ≠ (oriE p f).1 := fun z => by rw [z, gO_l] at b1; omega
    have ne2 : (oriE p e).2 ≠ (oriE p f).2 := fun z => by rw [z, gO_r] at b2; omega
    have ne3 : (oriE p e).1 ≠ (oriE p f).2 := fun z => by rw [z, gO_r] at b1; omega
    have ne4 : (oriE p e).2 ≠ (oriE p f).1 := fun z => by rw [z, gO_l] at b2; omega
    rw [gO_tz] at b1 b2 b3 b4
    have N := net_noX h he hf
    rcases oriE_cases p e with z | z <;> rcases oriE_cases p f with y | y <;> rw [z, y] at ne1 ne2 ne3 ne4 b1 b2 b3 b4 <;> (try dsimp only at ne1 ne2 ne3 ne4 b1 b2 b3 b4) <;> rcases N with N | N
    · unfold shB at N; have := of_decide_eq_true N; omega
    · apply N; omega
    · unfold shB at N; have := of_decide_eq_true N; omega
    · apply N
      rw [tz_sw] at b1 b2
      omega
    · unfold shB at N; have := of_decide_eq_true N; omega
    · apply N
      rw [tz_sw] at b3 b4
      omega
    · unfold shB at N; have := of_decide_eq_true N; omega
    · apply N
      rw [tz_sw] at b1 b2 b3 b4
      omega
theorem nodup_mapOn {α β : Type} {g : α → β} : ∀ {l : List α}, l.Nodup → (∀ x ∈ l, ∀ y ∈ l, g x = g y → x = y) → (l.map g).Nodup
  | [], _, _ => List.nodup_nil
  | x :: l, hd, hi => by
    rw [List.nodup_cons] at hd
    rw [List.map_cons, List.nodup_cons]
    refine ⟨fun z => ?_, nodup_mapOn hd.2 (fun a ha b hb => hi a (List.mem_cons_of_mem _ ha) b (List.mem_cons_of_mem _ hb))⟩
    obtain ⟨y, hy, he⟩ := List.mem_map.mp z
    have := hi y (List.mem_cons_of_mem _ hy) x (List.mem_cons_self) he
    exact hd.1 (this ▸ hy)
theorem net_len {n : Nat} {p : Nat → zP} {E : List (Nat × Nat)} (hn : n ≤ 16) (hp : ∀ k, k < n → okZ (p k)) (hd : ∀ j k, j < n → k < n → p j = p k → j = k) (h : netE n p E) : E.length ≤ 42 := by
  by_cases c : 3 ≤ n
  · have g := net_g hp hd h
    have nd : (E.map (oriE p)).Nodup := nodup_mapOn h.1 (fun x hx y hy he => by
      obtain ⟨x1, x2, _⟩ := h.2.1 x hx
      obtain ⟨y1, y2, _⟩ := h.2.1 y hy
      rcases oriE_cases p x with z | z <;> rcases oriE_cases p y with w | w <;> rw [z, w] at he
      · exact he
      · rw [he] at x1; dsimp only at x1; omega
      · rw [← he] at y1; dsimp only at y1; omega
      · have := Prod.mk.inj he
        exact Prod.ext this.2 this.1)
    have := edges_le g nd c
    rw [List.length_map] at this
    omega
  · have all : ∀ e ∈ E, e = (0, 1) := fun e he => by
      obtain ⟨x1, x2, _⟩ := h.2.1 e he
      exact Prod.ext (by show e.1 = 0; omega) (by show e.2 = 1; omega)
    have nd := h.1
    rcases E with _ | ⟨x, E⟩
    · exact Nat.zero_le _
    · rcases E with _ | ⟨y, E⟩
      · exact Nat.le_of_ble_eq_true rfl
      · have e1 := all x (by simp)
        have e2 := all y (by simp)
        rw [e1, e2] at nd
        simp at nd
