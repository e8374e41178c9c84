/-! BEDS: what they are, and that there is one way to number them. -/
def rcN (adj : Nat → Nat → Prop) (s : Nat) : Nat → Nat → Prop
  | 0, x => x = s
  | k + 1, x => ∃ y, rcN adj s k y ∧ adj y x
def Rch (adj : Nat → Nat → Prop) (s x : Nat) : Prop := ∃ k, rcN adj s k x
theorem Rch.rf (adj : Nat → Nat → Prop) (s : Nat) : Rch adj s s := ⟨0, rfl⟩
theorem Rch.st {adj : Nat → Nat → Prop} {s x y : Nat} (h : Rch adj s x) (ha : adj x y) : Rch adj s y := by
  obtain ⟨k, h⟩ := h
  exact ⟨k + 1, x, h, ha⟩
theorem Rch.cl {adj : Nat → Nat → Prop} {f : Nat → Option Nat} {c s : Nat} (hc : ∀ x y, adj x y → f x = some c → f y = some c) (hs : f s = some c) {x : Nat} (h : Rch adj s x) : f x = some c := by
  obtain ⟨k, h⟩ := h
  induction k generalizing x with
  | zero =>
    have h : x = s := h
    rw [h]
    exact hs
  | succ k ih =>
    obtain ⟨y, h1, h2⟩ := h
    exact hc y x h2 (ih h1)
/-- beds numbered so far: each begins at its least slot, is closed, and all of it is reached -/
def part (adj : Nat → Nat → Prop) (ok : Nat → Prop) (f : Nat → Option Nat) (L : List Nat) : Prop :=
  (∀ x c, f x = some c → ok x ∧ c < L.length) ∧ (∀ x y c, adj x y → f x = some c → f y = some c) ∧
  (∀ c s, L[c]? = some s → f s = some c ∧ ∀ x, f x = some c → Rch adj s x ∧ s ≤ x) ∧ incF (fun c => L.getD c 0) L.length
def good (adj : Nat → Nat → Prop) (ok : Nat → Prop) (f : Nat → Option Nat) (L : List Nat) : Prop := part adj ok f L ∧ ∀ x, ok x → f x ≠ none
theorem getD_of {L : List Nat} {c s : Nat} (h : L[c]? = some s) : L.getD c 0 = s := by rw [List.getD_eq_getElem?_getD, h]; rfl
theorem good_f {adj : Nat → Nat → Prop} {ok : Nat → Prop} {f g : Nat → Option Nat} {L K : List Nat} (hf : good adj ok f L) (hg : good adj ok g K) : ∀ x, f x = g x := by
  have one : ∀ {f g : Nat → Option Nat} {L K : List Nat}, good adj ok f L → good adj ok g K → ∀ x y c, f x = some c → f y = some c → g x = g y := fun {f g L K} hf hg x y c hx hy => by
    obtain ⟨⟨f1, f2, f3, f4⟩, f5⟩ := hf
    obtain ⟨⟨g1, g2, g3, g4⟩, g5⟩ := hg
    obtain ⟨s, hs⟩ : ∃ s, L[c]? = some s := ⟨_, List.getElem?_eq_getElem (f1 x c hx).2⟩
    obtain ⟨s1, s2⟩ := f3 c s hs
    have oks := (f1 s c s1).1
    cases hgs : g s with
    | none => exact absurd hgs (g5 s oks)
    | some d =>
      have e1 := (s2 x hx).1.cl (g2 · · d) hgs
      have e2 := (s2 y hy).1.cl (g2 · · d) hgs
      rw [e1, e2]
  have two : ∀ {f g : Nat → Option Nat} {L K : List Nat}, good adj ok f L → good adj ok g K → ∀ x c, f x = some c → g x ≠ none := fun {f g L K} hf hg x c hx => hg.2 x (hf.1.1 x c hx).1
  intro x
  induction x using Nat.strongRecOn with
  | _ x ih =>
    cases hx : f x with
    | none =>
      cases hgx : g x with
      | none => rfl
      | some d => exact absurd hx (two hg hf x d hgx)
    | some c =>
      cases hgx : g x with
      | none => exact absurd hgx (two hf hg x c hx)
      | some d =>
        have f1 := hf.1.1
        have g1 := hg.1.1
        have f3 := hf.1.2.2.1
        have g3 := hg.1.2.2.1
        have f4 := hf.1.2.2.2
        have g4 := hg.1.2.2.2
        obtain ⟨s, hs⟩ : ∃ s, L[c]? = some s := ⟨_, List.getElem?_eq_getElem (f1 x c hx).2⟩
        obtain ⟨t, ht⟩ : ∃ t, K[d]? = some t := ⟨_, List.getElem?_eq_getElem (g1 x d hgx).2⟩
        obtain ⟨s1, s2⟩ := f3 c s hs
        obtain ⟨t1, t2⟩ := g3 d t ht
        have sx := (s2 x hx).2
        have tx := (t2 x hgx).2
        by_cases c1 : s < x
        · have e1 := ih s c1
          have e2 := one hf hg s x c s1 hx
          rw [← hgx, ← e2, ← e1, s1]
        · by_cases c2 : t < x
          · have e1 := ih t c2
            have e2 := one hg hf t x d t1 hgx
            rw [← hx, ← e2, e1, t1]
          · have es : s = x := by omega
            have et : t = x := by omega
            rcases Nat.lt_trichotomy c d with z | z | z
            · exfalso
              obtain ⟨u, hu⟩ : ∃ u, K[c]? = some u := ⟨_, List.getElem?_eq_getElem (by have := (g1 x d hgx).2; omega)⟩
              have lt := g4 c d z (g1 x d hgx).2
              dsimp only at lt
              rw [getD_of hu, getD_of ht, et] at lt
              have u1 := (g3 c u hu).1
              rw [← ih u lt] at u1
              have := (s2 u u1).2
              omega
            · rw [z]
            · exfalso
              obtain ⟨u, hu⟩ : ∃ u, L[d]? = some u := ⟨_, List.getElem?_eq_getElem (by have := (f1 x c hx).2; omega)⟩
              have lt := f4 d c z (f1 x c hx).2
              dsimp only at lt
              rw [getD_of hu, getD_of hs, es] at lt
              have u1 := (f3 d u hu).1
              rw [ih u lt] at u1
              have := (t2 u u1).2
              omega
theorem good_L {adj : Nat → Nat → Prop} {ok : Nat → Prop} {f g : Nat → Option Nat} {L K : List Nat} (hf : good adj ok f L) (hg : good adj ok g K) : L = K := by
  have e := good_f hf hg
  have one : ∀ {f g : Nat → Option Nat} {L K : List Nat}, good adj ok f L → good adj ok g K → (∀ x, f x = g x) → ∀ c s, L[c]? = some s → ∃ t, K[c]? = some t ∧ t ≤ s := fun {f g L K} hf hg e c s hs => by
    obtain ⟨s1, s2⟩ := hf.1.2.2.1 c s hs
    rw [e] at s1
    obtain ⟨t, ht⟩ : ∃ t, K[c]? = some t := ⟨_, List.getElem?_eq_getElem (hg.1.1 s c s1).2⟩
    exact ⟨t, ht, ((hg.1.2.2.1 c t ht).2 s s1).2⟩
  apply List.ext_getElem?
  intro c
  cases hL : L[c]? with
  | some s =>
    obtain ⟨t, ht, h1⟩ := one hf hg e c s hL
    obtain ⟨u, hu, h2⟩ := one hg hf (fun x => (e x).symm) c t ht
    rw [hL] at hu
    have := Option.some.inj hu
    rw [ht]
    congr 1
    omega
  | none =>
    cases hK : K[c]? with
    | none => rfl
    | some t =>
      obtain ⟨u, hu, h2⟩ := one hg hf (fun x => (e x).symm) c t hK
      rw [hL] at hu
      cases hu
/-- a new bed: all of the component of s -/
theorem part_new {adj : Nat → Nat → Prop} {ok : Nat → Prop} {f g : Nat → Option Nat} {L : List Nat} {s : Nat} (h : part adj ok f L) (hsy : ∀ x y, adj x y → adj y x) (ho : ∀ x y, adj x y → ok y) (hs : ok s) (h0 : f s = none) (hlow : ∀ x, ok x → x < s → f x ≠ none) (hL : ∀ t ∈ L, t < s) (g1 : ∀ x c, f x = some c → g x = some c) (g2 : ∀ x c, g x = some c → f x = some c ∨ (c = L.length ∧ f x = none ∧ Rch adj s x)) (g3 : g s = some L.length) (g4 : ∀ x y, adj x y → g x = some L.length → g y ≠ none) : part adj ok g (L ++ [s]) := by
  obtain ⟨f1, f2, f3, f4⟩ := h
  have lenlt : ∀ x c, f x = some c → c < L.length := fun x c hx => (f1 x c hx).2
  have okR : ∀ x, Rch adj s x → ok x := fun x hx => by
    obtain ⟨k, hk⟩ := hx
    cases k with
    | zero =>
      have hk : x = s := hk
      rw [hk]
      exact hs
    | succ k =>
      obtain ⟨y, _, hy⟩ := hk
      exact ho y x hy
  refine ⟨fun x c hx => ?_, fun x y c hxy hx => ?_, fun c t ht => ?_, fun i j hij hj => ?_⟩
  · rw [List.length_append]
    rcases g2 x c hx with z | ⟨z1, z2, z3⟩
    · obtain ⟨a, b⟩ := f1 x c z
      exact ⟨a, by omega⟩
    · exact ⟨okR x z3, by rw [z1]; show L.length < L.length + 1; omega⟩
  · rcases g2 x c hx with z | ⟨z1, z2, z3⟩
    · exact g1 y c (f2 x y c hxy z)
    · subst z1
      cases hgy : g y with
      | none => exact absurd hgy (g4 x y hxy hx)
      | some d =>
        rcases g2 y d hgy with w | ⟨w1, w2, w3⟩
        · exfalso
          have := f2 y x d (hsy x y hxy) w
          rw [z2] at this
          cases this
        · rw [w1]
  · rcases app_get ht with ⟨d1, d2⟩ | ⟨d1, d2⟩
    · obtain ⟨s1, s2⟩ := f3 c t d2
      refine ⟨g1 t c s1, fun x hx => ?_⟩
      rcases g2 x c hx with z | ⟨z1, z2, z3⟩
      · exact s2 x z
      · omega
    · subst d1 d2
      refine ⟨g3, fun x hx => ?_⟩
      rcases g2 x _ hx with z | ⟨z1, z2, z3⟩
      · exact absurd (lenlt x _ z) (Nat.lt_irrefl _)
      · refine ⟨z3, ?_⟩
        by_cases c : x < t
        · exact absurd z2 (hlow x (okR x z3) c)
        · omega
  · dsimp only
    rw [List.length_append] at hj
    have hj : j < L.length + 1 := hj
    have ei : (L ++ [s]).getD i 0 = L.getD i 0 := by
      rw [List.getD_eq_getElem?_getD, List.getD_eq_getElem?_getD, List.getElem?_append_left (by omega)]
    rw [ei]
    by_cases c : j < L.length
    · have ej : (L ++ [s]).getD j 0 = L.getD j 0 := by
        rw [List.getD_eq_getElem?_getD, List.getD_eq_getElem?_getD, List.getElem?_append_left c]
      rw [ej]
      exact f4 i j hij c
    · have ej : j = L.length := by omega
      subst ej
      have es : (L ++ [s]).getD L.length 0 = s := by
        rw [List.getD_eq_getElem?_getD, List.getElem?_append_right (Nat.le_refl _), Nat.sub_self]
        rfl
      rw [es]
      obtain ⟨t, ht⟩ : ∃ t, L[i]? = some t := ⟨_, List.getElem?_eq_getElem hij⟩
      rw [getD_of ht]
      exact hL t (List.mem_of_getElem? ht)
/-- the slots and who is matched with whom -/
def ptN (τ : rS) (nb : Nat → Nat → Bool) (a b l : Nat) : Option Nat := if nb a b = true then (if a < b then PN τ a b l else QN τ b a l) else none
def adjP (τ : rS) (nb : Nat → Nat → Bool) (x y : Nat) : Prop := ∃ a b i j, a < wn τ ∧ b < wn τ ∧ i < wl τ a ∧ ptN τ nb a b i = some j ∧ x = 12 * a + i ∧ y = 12 * b + j
def okS (τ : rS) (x : Nat) : Prop := ∃ a i, a < wn τ ∧ i < wl τ a ∧ x = 12 * a + i
theorem QN_lt {τ : rS} {a b i j : Nat} (h : QN τ a b j = some i) : i < wl τ a ∧ PN τ a b i = some j := by
  obtain ⟨_, h2, h3, _⟩ := ff_some h
  exact ⟨by omega, of_decide_eq_true h3⟩
theorem nbE_sy (bk : Nat × Nat → Bool) (E : List (Nat × Nat)) (a b : Nat) : nbE bk E a b = nbE bk E b a := by
  unfold nbE jnE
  have : mtB a b = mtB b a := funext fun e => by
    unfold mtB
    rw [decide_eq_decide]
    omega
  rw [this]
theorem ptN_lt {τ : rS} {nb : Nat → Nat → Bool} {a b i j : Nat} (h : ptN τ nb a b i = some j) : j < wl τ b ∧ nb a b = true := by
  unfold ptN at h
  by_cases c : nb a b = true
  · rw [if_pos c] at h
    refine ⟨?_, c⟩
    split at h
    · exact (PN_lt h).2
    · exact (QN_lt h).1
  · rw [if_neg c] at h
    cases h
theorem ptN_sy {τ : rS} {nb : Nat → Nat → Bool} (hsy : ∀ a b, nb a b = nb b a) (hne : ∀ a, nb a a = false) {a b i j : Nat} (hi : i < wl τ a) (h : ptN τ nb a b i = some j) : ptN τ nb b a j = some i := by
  obtain ⟨h1, h2⟩ := ptN_lt h
  have hab : a ≠ b := fun z => by rw [z, hne] at h2; cases h2
  unfold ptN at h ⊢
  rw [if_pos h2] at h
  rw [if_pos (by rw [← hsy]; exact h2)]
  by_cases c : a < b
  · rw [if_pos c] at h
    rw [if_neg (by omega)]
    exact (QN_i hi).mpr h
  · rw [if_neg c] at h
    rw [if_pos (by omega)]
    exact (QN_lt h).2
theorem adjP_sy {τ : rS} {nb : Nat → Nat → Bool} (hsy : ∀ a b, nb a b = nb b a) (hne : ∀ a, nb a a = false) {x y : Nat} (h : adjP τ nb x y) : adjP τ nb y x := by
  obtain ⟨a, b, i, j, h1, h2, h3, h4, h5, h6⟩ := h
  exact ⟨b, a, j, i, h2, h1, (ptN_lt h4).1, ptN_sy hsy hne h3 h4, h6, h5⟩
theorem adjP_ok {τ : rS} {nb : Nat → Nat → Bool} {x y : Nat} (h : adjP τ nb x y) : okS τ y := by
  obtain ⟨a, b, i, j, h1, h2, h3, h4, h5, h6⟩ := h
  exact ⟨b, j, h2, (ptN_lt h4).1, h6⟩
theorem nbE_ne {n : Nat} {p : Nat → zP} {bk : Nat × Nat → Bool} {E : List (Nat × Nat)} (h : netE n p E) (a : Nat) : nbE bk E a a = false := by
  cases hn : nbE bk E a a with
  | false => rfl
  | true =>
    rcases nb_mem hn with z | z
    · have := (h.2.1 _ z).1; dsimp only at this; omega
    · have := (h.2.1 _ z).1; dsimp only at this; omega
theorem okS_lt {τ : rS} (hv : VB τ) {x : Nat} (h : okS τ x) : x < 192 := by
  obtain ⟨a, i, h1, h2, h3⟩ := h
  have := hv.2.1
  have := (l_ok hv h1).2
  omega
/-- how many slots a bed has, and in which borings it is -/
def cntF (f : Nat → Option Nat) (c : Nat) : Nat := (List.range 192).countP (fun x => decide (f x = some c))
def upF (f : Nat → Option Nat) (s c : Nat) (x : Nat) : Option Nat := if x = s then some c else f x
theorem countP_up {p q : Nat → Bool} {s : Nat} (hp : p s = false) (hq : q s = true) (he : ∀ x, x ≠ s → q x = p x) : ∀ m, (List.range m).countP q = (List.range m).countP p + if s < m then 1 else 0
  | 0 => (by simp)
  | m + 1 => by
    rw [List.range_succ, List.countP_append, List.countP_append, countP_up hp hq he m]
    by_cases c : m = s
    · subst c
      have e1 : List.countP q [m] = 1 := by simp [hq]
      have e2 : List.countP p [m] = 0 := by simp [hp]
      rw [e1, e2, if_neg (Nat.lt_irrefl _), if_pos (by omega)]
    · have e1 : List.countP q [m] = List.countP p [m] := by simp [he m c]
      rw [e1]
      by_cases d : s < m
      · rw [if_pos d, if_pos (by omega)]; omega
      · rw [if_neg d, if_neg (by omega)]; omega
theorem cntF_up {f : Nat → Option Nat} {s c : Nat} (hs : s < 192) (h : f s ≠ some c) : cntF (upF f s c) c = cntF f c + 1 := by
  unfold cntF
  rw [countP_up (p := fun x => decide (f x = some c)) (q := fun x => decide (upF f s c x = some c)) (s := s) (decide_eq_false h) (decide_eq_true (by unfold upF; rw [if_pos rfl])) (fun x hx => by unfold upF; rw [if_neg hx]) 192, if_pos hs]
theorem cntF_le (f : Nat → Option Nat) (c : Nat) : cntF f c ≤ 192 := by
  have := List.countP_le_length (p := fun x => decide (f x = some c)) (l := List.range 192)
  rw [List.length_range] at this
  exact this
theorem cntF_ne {f : Nat → Option Nat} {s c d : Nat} (h : c ≠ d) (hs : f s ≠ some d) : cntF (upF f s c) d = cntF f d := by
  unfold cntF
  congr 1
  funext x
  rw [decide_eq_decide]
  unfold upF
  by_cases z : x = s
  · rw [if_pos z, z]
    exact ⟨fun y => absurd (Option.some.inj y) h, fun y => absurd y hs⟩
  · rw [if_neg z]
