/-! THE MODEL FINDS ALL BEDS. -/
section MBed2
variable {τ : rS} {bk : Nat × Nat → Bool} {E : List (Nat × Nat)}
theorem msp_mid (hv : VB τ) (net : netE (wn τ) (wP τ) E) (hl : E.length ≤ 42) {k2 : Int32 → Int32 → rS → Option (Unit × rS)} {f0 fs : Nat → Option Nat} {s c : Nat} (hc : c < 192) (hcl : ∀ x y d, adjP τ (nbE bk E) x y → f0 x = some d → f0 y = some d) : ∀ (r k fuel : Nat) (σ : rS) (f : Nat → Option Nat) (m : Bool), k + r = E.length → r < fuel → envM τ σ bk E → numF σ 60 f → (∀ x d, f x = some d → okS τ x ∧ d < 192) → pas τ bk E f0 fs f s c m k 0 → ∃ ρ g m', lX12_spread_10 k2 fuel (nI c) (bI m) (nI k) σ = k2 (nI c) (bI m') ρ ∧ Kp (fun n => n = 60) σ ρ ∧ numF ρ 60 g ∧ (∀ x d, g x = some d → okS τ x ∧ d < 192) ∧ pas τ bk E f0 fs g s c m' E.length 0 := by
  intro r
  induction r with
  | zero =>
    intro k fuel σ f m hk hfu hE hnum hok hP
    obtain ⟨fu, rfl⟩ : ∃ fu, fuel = fu + 1 := ⟨fuel - 1, by omega⟩
    obtain rfl : k = E.length := by omega
    refine ⟨σ, f, m, ?_, Kp.rf _ _, hnum, hok, hP⟩
    rw [lX12_spread_10, hE.2.1.1.1, if_pos ((kle (by omega) (by omega)).mpr (Nat.le_refl _))]
  | succ r ih =>
    intro k fuel σ f m hk hfu hE hnum hok hP
    obtain ⟨fu, rfl⟩ : ∃ fu, fuel = fu + 1 := ⟨fuel - 1, by omega⟩
    obtain ⟨e, he⟩ : ∃ e, E[k]? = some e := ⟨_, List.getElem?_eq_getElem (by omega)⟩
    obtain ⟨e1, e2, _⟩ := net.2.1 e (List.mem_of_getElem? he)
    have la := (l_ok hv (show e.1 < wn τ by omega)).2
    obtain ⟨ρ, g, m', t1, t2, t3, t4, t5⟩ := msp_in hv net hl (k2 := k2) (k10 := lX12_spread_10 k2 fu) hc he hcl (wl τ e.1) 0 1000 σ f m (by omega) (by omega) hE hnum hok hP
    obtain ⟨ρ2, g2, m2, u1, u2, u3⟩ := ih (k + 1) fu ρ g m' (by omega) (by omega) (hE.kp t2 (fun n h => by have h : n = 60 := h; omega) ((t2.1 43 (by omega)).1 _) ((t2.1 43 (by omega)).1 _)) t3 t4 t5
    refine ⟨ρ2, g2, m2, ?_, t2.tr u2, u3⟩
    rw [lX12_spread_10, hE.2.1.1.1, if_neg (by rw [kle (by omega) (by omega)]; omega)]
    rw [← u1, ← t1]
    rfl
theorem msp_out (hv : VB τ) (net : netE (wn τ) (wP τ) E) (hl : E.length ≤ 42) {f0 : Nat → Option Nat} {s c : Nat} (hc : c < 192) (hcl : ∀ x y d, adjP τ (nbE bk E) x y → f0 x = some d → f0 y = some d) : ∀ (r fuel : Nat) (σ : rS) (f : Nat → Option Nat), 192 ≤ cntF f c + r → r + 1 < fuel → envM τ σ bk E → numF σ 60 f → (∀ x d, f x = some d → okS τ x ∧ d < 192) → sprM (adjP τ (nbE bk E)) f0 f s c → ∃ ρ g, lX12_spread_2 fuel (nI c) 1 σ = some ((), ρ) ∧ Kp (fun n => n = 60) σ ρ ∧ numF ρ 60 g ∧ (∀ x d, g x = some d → okS τ x ∧ d < 192) ∧ sprM (adjP τ (nbE bk E)) f0 g s c ∧ ∀ x y, adjP τ (nbE bk E) x y → g x = some c → g y ≠ none := by
  have cls : ∀ (g : Nat → Option Nat), (∀ k' i', k' < E.length → agr τ bk E g c k' i') → ∀ x y, adjP τ (nbE bk E) x y → g x = some c → g y ≠ none := fun g hg x y hxy hx => by
    obtain ⟨k, i, j, e, h1, h2, h3, h4, h5⟩ := adj_edge net hxy
    have a := hg k i (List.getElem?_eq_some_iff.mp h1).1 e j h1 h2 h3 h4
    rcases h5 with ⟨z1, z2⟩ | ⟨z1, z2⟩
    · rw [z1] at hx
      rw [z2, a.mp hx]
      simp
    · rw [z2] at hx
      rw [z1, a.mpr hx]
      simp
  intro r
  induction r with
  | zero =>
    intro fuel σ f hcnt hfu hE hnum hok hS
    obtain ⟨fu, rfl⟩ : ∃ fu, fuel = fu + 1 + 1 := ⟨fuel - 2, by omega⟩
    obtain ⟨ρ, g, m, t1, t2, t3, t4, t5⟩ := msp_mid hv net hl (k2 := lX12_spread_2 (fu + 1)) (fs := f) hc hcl E.length 0 1000 σ f false (by omega) (by omega) hE hnum hok ⟨hS, fun _ => ⟨fun _ => rfl, fun k' i' h => by omega⟩, fun h => (by cases h), Nat.le_refl _⟩
    have mf : m = false := by
      cases m with
      | false => rfl
      | true =>
        have := t5.2.2.1 rfl
        have := cntF_le g c
        omega
    subst mf
    refine ⟨ρ, g, ?_, t2, t3, t4, t5.1, cls g (fun k' i' h => (t5.2.1 rfl).2 k' i' (Or.inl h))⟩
    rw [lX12_spread_2, if_neg (by decide)]
    rw [show nI 0 = 0 from rfl, bI_f] at t1
    rw [t1, lX12_spread_2]
    exact if_pos rfl
  | succ r ih =>
    intro fuel σ f hcnt hfu hE hnum hok hS
    obtain ⟨fu, rfl⟩ : ∃ fu, fuel = fu + 1 + 1 := ⟨fuel - 2, by omega⟩
    obtain ⟨ρ, g, m, t1, t2, t3, t4, t5⟩ := msp_mid hv net hl (k2 := lX12_spread_2 (fu + 1)) (fs := f) hc hcl E.length 0 1000 σ f false (by omega) (by omega) hE hnum hok ⟨hS, fun _ => ⟨fun _ => rfl, fun k' i' h => by omega⟩, fun h => (by cases h), Nat.le_refl _⟩
    rw [show nI 0 = 0 from rfl, bI_f] at t1
    cases m with
    | false =>
      refine ⟨ρ, g, ?_, t2, t3, t4, t5.1, cls g (fun k' i' h => (t5.2.1 rfl).2 k' i' (Or.inl h))⟩
      rw [lX12_spread_2, if_neg (by decide), t1, lX12_spread_2]
      exact if_pos rfl
    | true =>
      have := t5.2.2.1 rfl
      obtain ⟨ρ2, g2, u1, u2, u3⟩ := ih (fu + 1) ρ g (by omega) (by omega) (hE.kp t2 (fun n h => by have h : n = 60 := h; omega) ((t2.1 43 (by omega)).1 _) ((t2.1 43 (by omega)).1 _)) t3 t4 t5.1
      refine ⟨ρ2, g2, ?_, t2.tr u2, u3⟩
      rw [lX12_spread_2, if_neg (by decide), t1]
      exact u1
abbrev oX (n : Nat) : Prop := n = 43 ∨ n = 60 ∨ n = 61
/-- where the model stands between two slots -/
def gam (τ υ σ : rS) (bk : Nat × Nat → Bool) (E : List (Nat × Nat)) (f : Nat → Option Nat) (L : List Nat) (s : Nat) : Prop := Kp oX υ σ ∧ (∀ j, j ≠ 25 → σ.1 43 j = υ.1 43 j) ∧ envM τ σ bk E ∧ numF σ 60 f ∧ σ.1 43 25 = nI L.length ∧ part (adjP τ (nbE bk E)) (okS τ) f L ∧ (∀ x, okS τ x → x < s → f x ≠ none) ∧ (∀ t ∈ L, t < s) ∧ ∀ c s, L[c]? = some s → σ.2.2.1 61 c = nI s
theorem Lnd_of {L : List Nat} (h : incF (fun c => L.getD c 0) L.length) : L.Nodup := by
  rw [List.nodup_iff_pairwise_ne, List.pairwise_iff_getElem]
  intro i j hi hj hij
  have := h i j hij hj
  dsimp only at this
  rw [List.getD_eq_getElem?_getD, List.getD_eq_getElem?_getD, List.getElem?_eq_getElem hi, List.getElem?_eq_getElem hj] at this
  exact Nat.ne_of_lt this
theorem gam_in (hv : VB τ) (net : netE (wn τ) (wP τ) E) (hl : E.length ≤ 42) {υ : rS} {k29 : Int32 → rS → Option (Unit × rS)} {b : Nat} (hb : b < wn τ) : ∀ (r l fuel : Nat) (σ : rS) (f : Nat → Option Nat) (L : List Nat), l + r = wl τ b → r < fuel → gam τ υ σ bk E f L (12 * b + l) → ∃ ρ g K, lX12_findBeds_39 k29 fuel (nI b) (nI l) σ = k29 (nI (b + 1)) ρ ∧ gam τ υ ρ bk E g K (12 * (b + 1)) := by
  have h16 := hv.2.1
  have lb := (l_ok hv hb).2
  have hsy : ∀ a b, nbE bk E a b = nbE bk E b a := nbE_sy bk E
  have hne : ∀ a, nbE bk E a a = false := nbE_ne net
  intro r
  induction r with
  | zero =>
    intro l fuel σ f L hl' hfu hG
    obtain ⟨fu, rfl⟩ : ∃ fu, fuel = fu + 1 := ⟨fuel - 1, by omega⟩
    obtain rfl : l = wl τ b := by omega
    obtain ⟨g1, g2, g3, g4, g5, g6, g7, g8, g9⟩ := hG
    obtain ⟨_, _, _, y1, _⟩ := g3.1.2 b hb
    refine ⟨σ, f, L, ?_, g1, g2, g3, g4, g5, g6, fun x hx hlt => g7 x hx ?_, fun t ht => by have := g8 t ht; omega, g9⟩
    · rw [lX12_findBeds_39, kinB (by omega), decide_eq_true (show b < 16 by omega), if_pos rfl, kc (by omega), y1, if_pos ((kle (by omega) (by omega)).mpr (Nat.le_refl _)), vI_d, k1]
    · obtain ⟨a, i, h1, h2, h3⟩ := hx
      have := (l_ok hv h1).2
      by_cases z : a = b
      · subst z; omega
      · omega
  | succ r ih =>
    intro l fuel σ f L hl' hfu hG
    obtain ⟨fu, rfl⟩ : ∃ fu, fuel = fu + 1 := ⟨fuel - 1, by omega⟩
    obtain ⟨g1, g2, g3, g4, g5, g6, g7, g8, g9⟩ := hG
    obtain ⟨_, _, _, y1, _⟩ := g3.1.2 b hb
    have sl : (12 : Int32) * nI b + nI l = nI (12 * b + l) := by
      show nI 12 * nI b + nI l = _
      rw [kmul, kadd]
    have L192 : L.length ≤ 12 * b + l := nd_le _ L (Lnd_of g6.2.2.2) (fun x hx => g8 x hx)
    rw [lX12_findBeds_39, kinB (by omega), decide_eq_true (show b < 16 by omega), if_pos rfl, kc (by omega), y1, if_neg (by rw [kle (by omega) (by omega)]; omega)]
    unfold jX12_findBeds_112
    simp only [sl, kinB (show 12 * b + l < 2147483648 by omega), decide_eq_true (show 12 * b + l < 192 by omega), if_true, kc (show 12 * b + l < 2147483648 by omega), g4 (12 * b + l) (by omega), vS_d, vI_d, k1, uA_1, g5, kinB (show L.length < 2147483648 by omega), decide_eq_true (show L.length < 192 by omega), kc (show L.length < 2147483648 by omega)]
    have low : ∀ g : Nat → Option Nat, (∀ x, f x ≠ none → g x ≠ none) → g (12 * b + l) ≠ none → ∀ x, okS τ x → x < 12 * b + (l + 1) → g x ≠ none := fun g h1 h2 x hx hlt => by
      by_cases z : x = 12 * b + l
      · rw [z]; exact h2
      · exact h1 x (g7 x hx (by omega))
    have oks : okS τ (12 * b + l) := ⟨b, l, hb, by omega, rfl⟩
    cases hf : f (12 * b + l) with
    | some d =>
      have dl := (g6.1 _ d hf).2
      have oj : oI (some d) = nI d := rfl
      rw [oj, if_neg (kne1 (by omega))]
      exact ih (l + 1) fu σ f L (by omega) (by omega) ⟨g1, g2, g3, g4, g5, g6, low f (fun x h => h) (by rw [hf]; simp), fun t ht => by have := g8 t ht; omega, g9⟩
    | none =>
      rw [if_pos (show oI none = -1 from rfl)]
      have fresh : ∀ x, f x ≠ some L.length := fun x z => Nat.lt_irrefl _ (g6.1 x _ z).2
      have kk : Kp oX σ (uA (uA σ 60 (12 * b + l) (nI L.length)) 61 L.length (nI (12 * b + l))) := (Kp.uA (by omega)).tr (Kp.uA (by omega))
      have hok : ∀ x d, upF f (12 * b + l) L.length x = some d → okS τ x ∧ d < 192 := fun x d hx => by
        unfold upF at hx
        by_cases z : x = 12 * b + l
        · rw [if_pos z] at hx
          rw [z, ← Option.some.inj hx]
          exact ⟨oks, by omega⟩
        · rw [if_neg z] at hx
          have := g6.1 x d hx
          exact ⟨this.1, by omega⟩
      have sp : sprM (adjP τ (nbE bk E)) f (upF f (12 * b + l) L.length) (12 * b + l) L.length := ⟨fun x d hx => by
        unfold upF
        by_cases z : x = 12 * b + l
        · rw [z, hf] at hx; cases hx
        · rw [if_neg z]; exact hx, fun x d hx => by
        unfold upF at hx
        by_cases z : x = 12 * b + l
        · rw [if_pos z] at hx
          right
          rw [z]
          exact ⟨(Option.some.inj hx).symm, hf, Rch.rf _ _⟩
        · rw [if_neg z] at hx; exact Or.inl hx, by unfold upF; rw [if_pos rfl]⟩
      obtain ⟨ρ, g, t1, t2, t3, t4, t5, t6⟩ := msp_out hv net hl (f0 := f) (s := 12 * b + l) (c := L.length) (by omega) g6.2.1 192 1000 (uA (uA σ 60 (12 * b + l) (nI L.length)) 61 L.length (nI (12 * b + l))) (upF f (12 * b + l) L.length) (by omega) (by omega) (g3.kp kk (fun n h => by omega) rfl rfl) (fun x hx => by
        rw [uA_ne (by omega), uA_3]
        unfold upF
        by_cases z : x = 12 * b + l
        · rw [if_pos ⟨rfl, z⟩, if_pos z]; rfl
        · rw [if_neg (fun w => z w.2), if_neg z]; exact g4 x hx) hok sp
      have ks : Kp oX σ ρ := kk.tr (t2.mono (fun n h => by omega))
      have k25 : ρ.1 43 25 = nI L.length := by rw [(t2.1 43 (by omega)).1]; exact g5
      unfold fX12_spread
      rw [t1, Option.bind_some, k25, k1]
      have keep : ∀ x, f x ≠ none → g x ≠ none := fun x hx => by
        cases hfx : f x with
        | none => exact absurd hfx hx
        | some d => rw [t5.1 x d hfx]; simp
      have P := part_new g6 (fun x y h => adjP_sy hsy hne h) (fun x y h => adjP_ok h) oks hf g7 g8 t5.1 t5.2.1 t5.2.2 t6
      refine ih (l + 1) fu (uI ρ 43 25 (nI (L.length + 1))) g (L ++ [12 * b + l]) (by omega) (by omega) ⟨g1.tr (ks.tr (Kp.uI (by omega))), fun j hj => ?_, g3.kp (ks.tr (Kp.uI (by omega))) (fun n h => by omega) ?_ ?_, fun x hx => t3 x hx, by rw [uI_eq, List.length_append]; rfl, P, low g keep (by rw [t5.2.2]; simp), fun t ht => ?_, fun c s hc => ?_⟩
      · rw [uI_nj hj, (t2.1 43 (by omega)).1]
        exact g2 j hj
      · rw [uI_nj (by omega), (t2.1 43 (by omega)).1]
        rfl
      · rw [uI_nj (by omega), (t2.1 43 (by omega)).1]
        rfl
      · rcases List.mem_append.mp ht with z | z
        · have := g8 t z; omega
        · rw [List.mem_singleton] at z; omega
      · rw [uI_2, (t2.1 61 (by omega)).2.2]
        rcases app_get hc with ⟨d1, d2⟩ | ⟨d1, d2⟩
        · rw [uA_nj (by omega), uA_ne (by omega)]; exact g9 c s d2
        · subst d1 d2; rw [uA_eq]
theorem gam_mid (hv : VB τ) (net : netE (wn τ) (wP τ) E) (hl : E.length ≤ 42) {υ : rS} : ∀ (r b fuel : Nat) (σ : rS) (f : Nat → Option Nat) (L : List Nat), b + r = wn τ → r < fuel → gam τ υ σ bk E f L (12 * b) → ∃ ρ g K, lX12_findBeds_29 fuel (nI b) σ = some ((), ρ) ∧ gam τ υ ρ bk E g K (12 * wn τ) := by
  have h16 := hv.2.1
  intro r
  induction r with
  | zero =>
    intro b fuel σ f L hb hfu hG
    obtain ⟨fu, rfl⟩ : ∃ fu, fuel = fu + 1 := ⟨fuel - 1, by omega⟩
    obtain rfl : b = wn τ := by omega
    refine ⟨σ, f, L, ?_, hG⟩
    rw [lX12_findBeds_29, hG.2.2.1.1.1, if_pos ((kle (by omega) (by omega)).mpr (Nat.le_refl _))]
  | succ r ih =>
    intro b fuel σ f L hb hfu hG
    obtain ⟨fu, rfl⟩ : ∃ fu, fuel = fu + 1 := ⟨fuel - 1, by omega⟩
    have lb := (l_ok hv (show b < wn τ by omega)).2
    obtain ⟨ρ, g, K, t1, t2⟩ := gam_in hv net hl (k29 := lX12_findBeds_29 fu) (show b < wn τ by omega) (wl τ b) 0 1000 σ f L (by omega) (by omega) hG
    obtain ⟨ρ2, g2, K2, u1, u2⟩ := ih (b + 1) fu ρ g K (by omega) (by omega) t2
    refine ⟨ρ2, g2, K2, ?_, u2⟩
    rw [← u1, ← t1, lX12_findBeds_29, hG.2.2.1.1.1, if_neg (by rw [kle (by omega) (by omega)]; omega)]
    rfl
theorem m_beds (hv : VB τ) (net : netE (wn τ) (wP τ) E) (hl : E.length ≤ 42) {σ : rS} (hE : envM τ σ bk E) : ∃ ρ f L, fX12_findBeds σ = some ((), ρ) ∧ good (adjP τ (nbE bk E)) (okS τ) f L ∧ gam τ σ ρ bk E f L (12 * wn τ) := by
  have h16 := hv.2.1
  have loop : ∀ (r k fuel : Nat) (ρ : rS), k + r = 192 → r < fuel → Kp oX σ ρ → (∀ j, j ≠ 25 → ρ.1 43 j = σ.1 43 j) → ρ.1 43 25 = 0 → (∀ j, j < k → ρ.2.2.1 60 j = -1) → ∃ ρ' f L, lX12_findBeds_7 fuel (nI k) ρ = some ((), ρ') ∧ gam τ σ ρ' bk E f L (12 * wn τ) := by
    intro r
    induction r with
    | zero =>
      intro k fuel ρ hk hfu h1 h2 h3 h4
      obtain ⟨fu, rfl⟩ : ∃ fu, fuel = fu + 1 := ⟨fuel - 1, by omega⟩
      obtain ⟨ρ', f, L, t1, t2⟩ := gam_mid hv net hl (bk := bk) (υ := σ) (wn τ) 0 1000 ρ (fun _ => none) [] (by omega) (by omega) ⟨h1, h2, hE.kp h1 (fun n h => by omega) (h2 2 (by omega)) (h2 16 (by omega)), fun x hx => by rw [h4 x (by omega)]; rfl, h3, ⟨fun x c h => (by cases h), fun x y c _ h => (by cases h), fun c s h => (by simp at h), fun i j h h2 => by have : j < 0 := h2; omega⟩, fun x hx h => by omega, fun t h => (by cases h), fun c s h => (by simp at h)⟩
      refine ⟨ρ', f, L, ?_, t2⟩
      have c : (192 : Int32) ≤ nI k := (kle (a := 192) (by omega) (by omega)).mpr (by omega)
      rw [lX12_findBeds_7, if_pos c]
      exact t1
    | succ r ih =>
      intro k fuel ρ hk hfu h1 h2 h3 h4
      obtain ⟨fu, rfl⟩ : ∃ fu, fuel = fu + 1 := ⟨fuel - 1, by omega⟩
      obtain ⟨ρ', f, L, t1, t2⟩ := ih (k + 1) fu (uA ρ 60 k (-1)) (by omega) (by omega) (h1.tr (Kp.uA (by omega))) h2 h3 (fun j hj => by
        by_cases c : j = k
        · subst c; exact uA_eq _ _ _ _
        · rw [uA_nj c]; exact h4 j (by omega))
      refine ⟨ρ', f, L, ?_, t2⟩
      have c : ¬ (192 : Int32) ≤ nI k := fun z => by have := (kle (a := 192) (by omega) (by omega)).mp z; omega
      rw [← t1, lX12_findBeds_7, if_neg c, kinB (by omega), decide_eq_true (show k < 192 by omega)]
      simp only [if_true, vS_d, vI_d, k1, kc (show k < 2147483648 by omega)]
  obtain ⟨ρ, f, L, t1, t2⟩ := loop 192 0 1000 (uI σ 43 25 0) rfl (by omega) (Kp.uI (by omega)) (fun j hj => uI_nj hj) (uI_eq _ _ _ _) (fun j hj => by omega)
  refine ⟨ρ, f, L, ?_, ⟨t2.2.2.2.2.2.1, fun x hx => t2.2.2.2.2.2.2.1 x hx ?_⟩, t2⟩
  · unfold fX12_findBeds
    rw [vS_d]
    exact t1
  · obtain ⟨a, i, h1, h2, h3⟩ := hx
    have := (l_ok hv h1).2
    omega
end MBed2
