/-! THE CLASS SPREADS A BED. -/
abbrev oD (n : Nat) : Prop := 25 ≤ n ∧ n ≤ 33
theorem oD_oC : ∀ n, oD n → oC n := fun n h => by omega
def numF (σ : rS) (o : Nat) (f : Nat → Option Nat) : Prop := ∀ x, x < 192 → σ.2.2.1 o x = oI (f x)
def mskP (v : Int32) (f : Nat → Option Nat) (c : Nat) : Prop := ∃ m, v = nI m ∧ m < 65536 ∧ ∀ b, b < 16 → (m.testBit b = true ↔ ∃ l, l < 12 ∧ f (12 * b + l) = some c)
theorem k_or {x y : Nat} (hx : x < 2147483648) (hy : y < 2147483648) : nI x ||| nI y = nI (x ||| y) := by
  unfold nI
  apply Int32.toBitVec_inj.mp
  show BitVec.ofNat 32 x ||| BitVec.ofNat 32 y = BitVec.ofNat 32 (x ||| y)
  apply BitVec.eq_of_toNat_eq
  have h := Nat.or_lt_two_pow (n := 32) (x := x) (y := y) (by omega) (by omega)
  rw [BitVec.toNat_or, BitVec.toNat_ofNat, BitVec.toNat_ofNat, BitVec.toNat_ofNat, Nat.mod_eq_of_lt (by omega), Nat.mod_eq_of_lt (by omega), Nat.mod_eq_of_lt h]
theorem k_bit : ∀ b : Nat, b < 16 → (1 : Int32) <<< (nI b &&& 31) = nI (2 ^ b) := by decide
theorem k12 {x : Nat} (hx : x < 2147483648) : nI x / 12 = nI (x / 12) := kdiv (b := 12) hx (by omega)
theorem km12 {x : Nat} (hx : x < 2147483648) : nI x - nI x / 12 * 12 = nI (x % 12) := by
  rw [k12 hx]
  show nI x - nI (x / 12) * nI 12 = _
  rw [kmul, ksub (by omega)]
  congr 1
  omega
theorem mskP_up {v : Int32} {f : Nat → Option Nat} {c s : Nat} (h : mskP v f c) (hs : s < 192) (h0 : f s = none) : mskP (v ||| (1 <<< ((nI s / 12) &&& 31))) (upF f s c) c := by
  obtain ⟨m, h1, h2, h3⟩ := h
  have h4 : s / 12 < 16 := by omega
  have p16 : 2 ^ (s / 12) < 65536 := by
    have := Nat.pow_lt_pow_right (a := 2) (by omega) h4
    exact this
  have e : m ||| 2 ^ (s / 12) < 65536 := Nat.or_lt_two_pow (n := 16) h2 p16
  refine ⟨m ||| 2 ^ (s / 12), ?_, e, fun b hb => ?_⟩
  · rw [k12 (by omega), k_bit _ h4, h1, k_or (by omega) (by omega)]
  · rw [Nat.testBit_or, Bool.or_eq_true, h3 b hb, Nat.testBit_two_pow, decide_eq_true_eq]
    constructor
    · rintro (⟨l, hl, hf⟩ | z)
      · refine ⟨l, hl, ?_⟩
        unfold upF
        by_cases y : 12 * b + l = s
        · rw [if_pos y]
        · rw [if_neg y]; exact hf
      · refine ⟨s % 12, by omega, ?_⟩
        unfold upF
        rw [if_pos (by omega)]
    · rintro ⟨l, hl, hf⟩
      unfold upF at hf
      by_cases y : 12 * b + l = s
      · right; omega
      · rw [if_neg y] at hf
        exact Or.inl ⟨l, hl, hf⟩
theorem mskP_eq {v : Int32} {f g : Nat → Option Nat} {c : Nat} (h : mskP v f c) (he : ∀ x, f x = some c ↔ g x = some c) : mskP v g c := by
  obtain ⟨m, h1, h2, h3⟩ := h
  refine ⟨m, h1, h2, fun b hb => (h3 b hb).trans ?_⟩
  exact ⟨fun ⟨l, a, b⟩ => ⟨l, a, (he _).mp b⟩, fun ⟨l, a, b⟩ => ⟨l, a, (he _).mpr b⟩⟩
/-- the state while bed c grows: f, and the slots reached -/
def grow (σ : rS) (f : Nat → Option Nat) (c : Nat) (Q : List Nat) : Prop := numF σ 26 f ∧ σ.1 25 5 = nI c ∧ σ.1 25 9 = nI Q.length ∧ (∀ k x, Q[k]? = some x → σ.2.2.1 33 k = nI x) ∧ σ.2.2.1 28 c = nI (cntF f c) ∧ mskP (σ.2.2.1 30 c) f c
/-- rows of other beds, and what no bed changes -/
def sameB (σ τ : rS) (c : Nat) : Prop := (∀ d, d ≠ c → τ.2.2.1 27 d = σ.2.2.1 27 d ∧ τ.2.2.1 28 d = σ.2.2.1 28 d ∧ τ.2.2.1 29 d = σ.2.2.1 29 d ∧ τ.2.2.1 30 d = σ.2.2.1 30 d) ∧ (∀ x, τ.2.2.1 31 x = σ.2.2.1 31 x) ∧ (∀ x, τ.2.2.1 32 x = σ.2.2.1 32 x)
theorem sameB.rf (σ : rS) (c : Nat) : sameB σ σ c := ⟨fun _ _ => ⟨rfl, rfl, rfl, rfl⟩, fun _ => rfl, fun _ => rfl⟩
theorem sameB.tr {σ τ ρ : rS} {c : Nat} (h1 : sameB σ τ c) (h2 : sameB τ ρ c) : sameB σ ρ c := ⟨fun d hd => ⟨((h2.1 d hd).1).trans (h1.1 d hd).1, ((h2.1 d hd).2.1).trans (h1.1 d hd).2.1, ((h2.1 d hd).2.2.1).trans (h1.1 d hd).2.2.1, ((h2.1 d hd).2.2.2).trans (h1.1 d hd).2.2.2⟩, fun x => (h2.2.1 x).trans (h1.2.1 x), fun x => (h2.2.2 x).trans (h1.2.2 x)⟩
theorem c_reach {σ : rS} {f : Nat → Option Nat} {c s : Nat} {Q : List Nat} (h : grow σ f c Q) (hc : c < 192) (hs : s < 192) (hQ : Q.length < 192) (h0 : f s = none) : ∃ τ, fX0_reach (nI s) σ = some ((), τ) ∧ grow τ (upF f s c) c (Q ++ [s]) ∧ Kp oD σ τ ∧ sameB σ τ c ∧ τ.2.2.1 27 c = σ.2.2.1 27 c ∧ τ.2.2.1 29 c = σ.2.2.1 29 c := by
  obtain ⟨h1, h2, h3, h4, h5, h6⟩ := h
  refine ⟨uI (uA (uA (uA (uA σ 26 s (nI c)) 28 c (nI (cntF f c + 1))) 30 c ((σ.2.2.1 30 c) ||| (1 <<< ((nI s / 12) &&& 31)))) 33 Q.length (nI s)) 25 9 (nI (Q.length + 1)), ?_, ⟨?_, ?_, ?_, ?_, ?_, ?_⟩, ?_, ⟨?_, ?_, ?_⟩, ?_, ?_⟩
  · unfold fX0_reach jX0_reach_71
    have ng : ¬ (192 : Int32) ≤ nI Q.length := fun z => by
      have := (kle (a := 192) (by omega) (by omega)).mp z
      omega
    have r28 : (uA σ 26 s (nI c)).2.2.1 28 c = nI (cntF f c) := by rw [uA_ne (by omega)]; exact h5
    have r30 : (uA (uA σ 26 s (nI c)) 28 c (nI (cntF f c + 1))).2.2.1 30 c = σ.2.2.1 30 c := by rw [uA_ne (by omega), uA_ne (by omega)]
    simp only [h2, h3, if_neg ng, kinB (show s < 2147483648 by omega), decide_eq_true hs, if_true, vS_d, kc (show s < 2147483648 by omega), uA_1, kinB (show c < 2147483648 by omega), decide_eq_true hc, kc (show c < 2147483648 by omega), r28, k1, r30, kinB (show Q.length < 2147483648 by omega), decide_eq_true hQ, kc (show Q.length < 2147483648 by omega)]
  · intro x hx
    rw [uI_2, uA_ne (by omega), uA_ne (by omega), uA_ne (by omega), uA_3]
    unfold upF
    by_cases y : x = s
    · rw [if_pos ⟨rfl, y⟩, if_pos y]; rfl
    · rw [if_neg (fun z => y z.2), if_neg y]
      exact h1 x hx
  · rw [uI_nj (by omega)]; exact h2
  · rw [uI_eq, List.length_append]; rfl
  · intro k x hk
    rw [uI_2]
    rcases app_get hk with ⟨d1, d2⟩ | ⟨d1, d2⟩
    · rw [uA_nj (by omega), uA_ne (by omega), uA_ne (by omega), uA_ne (by omega)]
      exact h4 k x d2
    · subst d1 d2
      rw [uA_eq]
  · rw [uI_2, uA_ne (by omega), uA_ne (by omega), uA_eq, cntF_up hs (by rw [h0]; simp)]
  · rw [uI_2, uA_ne (by omega), uA_eq]
    exact mskP_up h6 hs h0
  · exact ((((Kp.uA (by omega)).tr (Kp.uA (by omega))).tr (Kp.uA (by omega))).tr (Kp.uA (by omega))).tr (Kp.uI (by omega))
  · intro d hd
    refine ⟨?_, ?_, ?_, ?_⟩
    · rw [uI_2, uA_ne (by omega), uA_ne (by omega), uA_ne (by omega), uA_ne (by omega)]
    · rw [uI_2, uA_ne (by omega), uA_ne (by omega), uA_nj hd, uA_ne (by omega)]
    · rw [uI_2, uA_ne (by omega), uA_ne (by omega), uA_ne (by omega), uA_ne (by omega)]
    · rw [uI_2, uA_ne (by omega), uA_nj hd, uA_ne (by omega), uA_ne (by omega)]
  · intro x
    rw [uI_2, uA_ne (by omega), uA_ne (by omega), uA_ne (by omega), uA_ne (by omega)]
  · intro x
    rw [uI_2, uA_ne (by omega), uA_ne (by omega), uA_ne (by omega), uA_ne (by omega)]
  · rw [uI_2, uA_ne (by omega), uA_ne (by omega), uA_ne (by omega), uA_ne (by omega)]
  · rw [uI_2, uA_ne (by omega), uA_ne (by omega), uA_ne (by omega), uA_ne (by omega)]
/-- the partner, in the class -/
theorem c_partner {σ υ : rS} (hv : VB υ) {n : Nat} {p : Nat → zP} {bk : Nat × Nat → Bool} {E : List (Nat × Nat)} (hj : ∀ a b, a < 16 → b < 16 → σ.2.2.1 16 (a * 16 + b) = oI (jnE bk E a b)) (net : netE n p E) (hl : E.length ≤ 42) (hm : matC σ υ bk E E.length) {a b l : Nat} (ha : a < 16) (hb : b < 16) (hla : l < wl υ a) (hl12 : wl υ a ≤ 12) : fX5_partner (nI a) (nI b) (nI l) σ = some (oI (ptN υ (nbE bk E) a b l), σ) := by
  unfold fX5_partner ptN nbE
  rw [c_join hj ha hb, Option.bind_some, vI_d]
  cases hjn : jnE bk E a b with
  | none => rfl
  | some k =>
    have kl := jn_lt hjn
    have oj : oI (some k) = nI k := rfl
    dsimp only
    rw [oj, if_neg (kne1 (by omega))]
    unfold jnE at hjn
    obtain ⟨k1', e, he, hq⟩ := jm_lt hjn
    rw [Bool.and_eq_true] at hq
    obtain ⟨q1, q2⟩ := hq
    have q1 := of_decide_eq_true q1
    have q2 : bk e = false := by simpa using q2
    have lt := (net.2.1 e (List.mem_of_getElem? he)).1
    obtain ⟨_, m2, m3⟩ := hm k e k1' he q2
    have e1 : nI k * 12 + nI l = nI (k * 12 + l) := by
      show nI k * nI 12 + nI l = _
      rw [kmul, kadd]
    unfold jX5_partner_50
    rw [e1, kinB (by omega), decide_eq_true (show k * 12 + l < 504 by omega), if_pos rfl, if_pos rfl, kc (by omega)]
    rw [Option.isSome_some, if_pos rfl]
    have q : (nI b ≤ nI a) = (b ≤ a) := propext (kle (by omega) (by omega))
    by_cases c : a < b
    · rw [if_neg (by rw [q]; omega), if_pos c]
      have x1 : e.1 = a := by omega
      have x2 : e.2 = b := by omega
      rw [x1, x2] at m2
      rw [m2 l hla]
    · have x1 : e.1 = b := by omega
      have x2 : e.2 = a := by omega
      rw [if_pos (by rw [q]; omega), if_neg c]
      rw [x1, x2] at m3
      rw [m3 l hla]
