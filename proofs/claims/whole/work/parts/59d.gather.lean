/-! THE CLASS GATHERS ALL BEDS. -/
def lvZ (τ : rS) (b : Nat) : Nat → Int
  | 0 => (wt τ b).toInt
  | l + 1 => lvZ τ b l - (hN τ b l : Int)
theorem lvZ_b {τ : rS} (hv : VB τ) {b : Nat} (hb : b < wn τ) : ∀ l, l ≤ wl τ b → lvZ τ b l ≤ 100000 ∧ -100000 - 10000 * (l : Int) ≤ lvZ τ b l
  | 0, _ => by
    obtain ⟨_, _, h, _⟩ := hv.2.2.2.1 b hb
    obtain ⟨h1, h2⟩ := h
    rw [lvZ]
    omega
  | l + 1, hl => by
    have := lvZ_b hv hb l (by omega)
    have := (h_ok hv hb (show l < wl τ b by omega)).2
    rw [lvZ]
    omega
def levS (σ υ : rS) (B : Nat) : Prop := ∀ b l, b < B → l < wl υ b → (σ.2.2.1 31 (12 * b + l)).toInt = lvZ υ b l ∧ σ.2.2.1 32 (12 * b + l) = nI (hN υ b l)
theorem meas_loop {υ : rS} (hv : VB υ) {b : Nat} (hb : b < wn υ) : ∀ (r l fuel : Nat) (σ : rS) (v : Int32), l + r = wl υ b → r < fuel → Kp oC υ σ → v.toInt = lvZ υ b l → (∀ l', l' < l → (σ.2.2.1 31 (12 * b + l')).toInt = lvZ υ b l' ∧ σ.2.2.1 32 (12 * b + l') = nI (hN υ b l')) → ∃ τ, lX0_measure_8 fuel (80 + 4 * b) (nI b) v (nI l) σ = some ((), τ) ∧ Kp (fun n => n = 31 ∨ n = 32) σ τ ∧ (∀ x, (x < 12 * b ∨ 12 * b + 12 ≤ x) → τ.2.2.1 31 x = σ.2.2.1 31 x ∧ τ.2.2.1 32 x = σ.2.2.1 32 x) ∧ ∀ l', l' < wl υ b → (τ.2.2.1 31 (12 * b + l')).toInt = lvZ υ b l' ∧ τ.2.2.1 32 (12 * b + l') = nI (hN υ b l') := by
  have h16 := hv.2.1
  obtain ⟨lb1, lb⟩ := l_ok hv hb
  intro r
  induction r with
  | zero =>
    intro l fuel σ v hl hfu hkp hvz h
    obtain ⟨fu, rfl⟩ : ∃ fu, fuel = fu + 1 := ⟨fuel - 1, by omega⟩
    obtain rfl : l = wl υ b := by omega
    have lb2 : σ.1 (80 + 4 * b) 4 = nI (wl υ b) := by rw [(hkp.1 _ (by omega)).1]; exact lb1
    refine ⟨σ, ?_, Kp.rf _ _, fun _ _ => ⟨rfl, rfl⟩, h⟩
    rw [lX0_measure_8, if_pos (bo_ok (by omega)), lb2, if_pos ((kle (by omega) (by omega)).mpr (Nat.le_refl _))]
  | succ r ih =>
    intro l fuel σ v hl hfu hkp hvz h
    obtain ⟨fu, rfl⟩ : ∃ fu, fuel = fu + 1 := ⟨fuel - 1, by omega⟩
    have lb2 : σ.1 (80 + 4 * b) 4 = nI (wl υ b) := by rw [(hkp.1 _ (by omega)).1]; exact lb1
    obtain ⟨y1, y2, y3⟩ := h_ok hv hb (show l < wl υ b by omega)
    have w1 : σ.2.2.1 (80 + 4 * b + 3) l = nI (hN υ b l) := by rw [(hkp.1 _ (by omega)).2.2]; exact y1
    have bz := lvZ_b hv hb l (by omega)
    have sl : nI b * 12 + nI l = nI (12 * b + l) := by
      show nI b * nI 12 + nI l = _
      rw [kmul, kadd, Nat.mul_comm]
    obtain ⟨τ, t1, t2, t3, t4⟩ := ih (l + 1) fu (uA (uA σ 31 (12 * b + l) v) 32 (12 * b + l) (nI (hN υ b l))) (v - nI (hN υ b l)) (by omega) (by omega) (hkp.tr ((Kp.uA (by omega)).tr (Kp.uA (by omega)))) (by
      rw [i_sub (by rw [hvz, ki (by omega)]; omega) (by rw [hvz, ki (by omega)]; omega), hvz, ki (by omega)]
      rfl) (fun l' hl' => by
      by_cases z : l' = l
      · subst z
        rw [uA_ne (by omega), uA_eq, uA_eq]
        exact ⟨hvz, rfl⟩
      · rw [uA_ne (by omega), uA_nj (by omega), uA_nj (by omega), uA_ne (by omega)]
        exact h l' (by omega))
    refine ⟨τ, ?_, ((Kp.uA (O := fun n => n = 31 ∨ n = 32) (Or.inl rfl)).tr (Kp.uA (Or.inr rfl))).tr t2, fun x hx => ?_, t4⟩
    · rw [← t1, lX0_measure_8, if_pos (bo_ok (by omega)), lb2, if_neg (by rw [kle (by omega) (by omega)]; omega)]
      unfold fX11_slotOf
      have r1 : (uA σ 31 (12 * b + l) v).2.2.1 (80 + 4 * b + 3) l = nI (hN υ b l) := by rw [uA_ne (by omega)]; exact w1
      have r2 : (uA (uA σ 31 (12 * b + l) v) 32 (12 * b + l) (nI (hN υ b l))).2.2.1 (80 + 4 * b + 3) l = nI (hN υ b l) := by rw [uA_ne (by omega)]; exact r1
      simp only [Option.bind_some, sl, kinB (show 12 * b + l < 2147483648 by omega), decide_eq_true (show 12 * b + l < 192 by omega), if_true, kc (show 12 * b + l < 2147483648 by omega), vS_d, if_pos (bo_ok (show b < 16 by omega)), if_pos (th_ok (show b < 16 by omega)), kinB (show l < 2147483648 by omega), decide_eq_true (show l < 12 by omega), kc (show l < 2147483648 by omega), r1, r2, vI_d, k1]
    · rw [(t3 x hx).1, (t3 x hx).2, uA_ne (by omega), uA_nj (by omega), uA_nj (by omega), uA_ne (by omega)]
      exact ⟨rfl, rfl⟩
theorem c_measure {υ σ : rS} (hv : VB υ) {b : Nat} (hb : b < wn υ) (hkp : Kp oC υ σ) : ∃ τ, fX0_measure (80 + 4 * b) (nI b) σ = some ((), τ) ∧ Kp (fun n => n = 31 ∨ n = 32) σ τ ∧ (∀ x, (x < 12 * b ∨ 12 * b + 12 ≤ x) → τ.2.2.1 31 x = σ.2.2.1 31 x ∧ τ.2.2.1 32 x = σ.2.2.1 32 x) ∧ ∀ l', l' < wl υ b → (τ.2.2.1 31 (12 * b + l')).toInt = lvZ υ b l' ∧ τ.2.2.1 32 (12 * b + l') = nI (hN υ b l') := by
  have h16 := hv.2.1
  obtain ⟨lb1, lb⟩ := l_ok hv hb
  obtain ⟨τ, t1, t2⟩ := meas_loop hv hb (wl υ b) 0 1000 σ (wt υ b) (by omega) (by omega) hkp rfl (fun l' h => by omega)
  refine ⟨τ, ?_, t2⟩
  unfold fX0_measure
  have e : σ.1 (80 + 4 * b) 3 = wt υ b := (hkp.1 _ (by omega)).1 3
  rw [if_pos (bo_ok (by omega)), e, vI_d]
  exact t1
def bedC (σ υ : rS) (f : Nat → Option Nat) (L : List Nat) : Prop := ∀ c s, L[c]? = some s → σ.2.2.1 27 c = wk υ (s / 12) (s % 12) ∧ σ.2.2.1 29 c = nI s ∧ σ.2.2.1 28 c = nI (cntF f c) ∧ mskP (σ.2.2.1 30 c) f c
theorem cntF_0 {f : Nat → Option Nat} {c : Nat} (h : ∀ x, f x ≠ some c) : cntF f c = 0 := by
  unfold cntF
  rw [List.countP_eq_zero]
  intro x _
  simp [h x]
theorem cntF_eq {f g : Nat → Option Nat} {c : Nat} (h : ∀ x, f x = some c ↔ g x = some c) : cntF f c = cntF g c := by
  unfold cntF
  congr 1
  funext x
  rw [decide_eq_decide]
  exact h x
section Gat
variable {υ : rS} {bk : Nat × Nat → Bool} {E : List (Nat × Nat)}
/-- one bed -/
theorem c_bed (hv : VB υ) (net : netE (wn υ) (wP υ) E) (hl : E.length ≤ 42) {σ : rS} {f : Nat → Option Nat} {L : List Nat} {b l : Nat} (hb : b < wn υ) (hlb : l < wl υ b) (hkp : Kp oC υ σ) (hE : envC υ σ bk E) (hnum : numF σ 26 f) (hcnt : σ.1 25 5 = nI L.length) (hP : part (adjP υ (nbE bk E)) (okS υ) f L) (hlow : ∀ x, okS υ x → x < 12 * b + l → f x ≠ none) (hL : ∀ t ∈ L, t < 12 * b + l) (hB : bedC σ υ f L) (h0 : f (12 * b + l) = none) : ∃ τ1 τ2 g, fX0_begin (nI (12 * b + l)) (wk υ b l) σ = some ((), τ1) ∧ fX0_spread (nI (wn υ)) τ1 = some ((), τ2) ∧ τ1.1 1 1 = nI (wn υ) ∧ τ2.1 25 5 = nI L.length ∧ Kp oD σ τ2 ∧ numF τ2 26 g ∧ part (adjP υ (nbE bk E)) (okS υ) g (L ++ [12 * b + l]) ∧ bedC τ2 υ g (L ++ [12 * b + l]) ∧ (∀ x, f x ≠ none → g x ≠ none) ∧ g (12 * b + l) ≠ none ∧ (∀ x, τ2.2.2.1 31 x = σ.2.2.1 31 x) ∧ (∀ x, τ2.2.2.1 32 x = σ.2.2.1 32 x) := by
  have h16 := hv.2.1
  have lb := (l_ok hv hb).2
  have hsy : ∀ a b, nbE bk E a b = nbE bk E b a := nbE_sy bk E
  have hne : ∀ a, nbE bk E a a = false := nbE_ne net
  have oks : okS υ (12 * b + l) := ⟨b, l, hb, hlb, rfl⟩
  have s192 : 12 * b + l < 192 := okS_lt hv oks
  have Linc := hP.2.2.2
  have Lnd : L.Nodup := by
    rw [List.nodup_iff_pairwise_ne, List.pairwise_iff_getElem]
    intro i j hi hj hij
    have := Linc i j hij hj
    dsimp only at this
    rw [List.getD_eq_getElem?_getD, List.getD_eq_getElem?_getD, List.getElem?_eq_getElem hi, List.getElem?_eq_getElem hj] at this
    exact Nat.ne_of_lt this
  have L192 : (L ++ [12 * b + l]).length ≤ 192 := by
    apply nd_le
    · rw [List.nodup_append]
      refine ⟨Lnd, by simp, fun x hx y hy hxy => ?_⟩
      rw [List.mem_singleton] at hy
      have := hL x hx
      omega
    · intro x hx
      rcases List.mem_append.mp hx with z | z
      · have := hL x z; omega
      · rw [List.mem_singleton] at z; omega
  rw [List.length_append] at L192
  have L1 : L.length < 192 := by
    have : [12 * b + l].length = 1 := rfl
    omega
  have fresh : ∀ x, f x ≠ some L.length := fun x z => Nat.lt_irrefl _ (hP.1 x _ z).2
  have r10 : ∃ τ1, fX0_begin (nI (12 * b + l)) (wk υ b l) σ = some ((), τ1) ∧ grow τ1 (upF f (12 * b + l) L.length) L.length [12 * b + l] ∧ Kp oD σ τ1 ∧ sameB σ τ1 L.length ∧ τ1.2.2.1 27 L.length = wk υ b l ∧ τ1.2.2.1 29 L.length = nI (12 * b + l) := by
    have G0 : grow (uI (uA (uA (uA (uA σ 27 L.length (wk υ b l)) 29 L.length (nI (12 * b + l))) 28 L.length 0) 30 L.length 0) 25 9 0) f L.length [] := by
      refine ⟨fun x hx => ?_, ?_, uI_eq _ _ _ _, fun k x h => (by simp at h), ?_, 0, ?_, by omega, fun b _ => ?_⟩
      · rw [uI_2, uA_ne (by omega), uA_ne (by omega), uA_ne (by omega), uA_ne (by omega)]
        exact hnum x hx
      · rw [uI_nj (by omega)]; exact hcnt
      · rw [uI_2, uA_ne (by omega), uA_eq, cntF_0 fresh]; rfl
      · rw [uI_2, uA_eq]; rfl
      · simp [fresh]
    obtain ⟨τ1, t1, t2, t3, t4, t5, t6⟩ := c_reach G0 L1 s192 (by show 0 < 192; omega) h0
    refine ⟨τ1, ?_, t2, ((((Kp.uA (by omega)).tr (Kp.uA (by omega))).tr (Kp.uA (by omega))).tr (Kp.uA (by omega))).tr ((Kp.uI (by omega)).tr t3), sameB.tr ⟨fun d hd => ⟨?_, ?_, ?_, ?_⟩, fun x => ?_, fun x => ?_⟩ t4, ?_, ?_⟩
    · unfold fX0_begin
      simp only [hcnt, kinB (show L.length < 2147483648 by omega), decide_eq_true L1, if_true, vS_d, kc (show L.length < 2147483648 by omega), uA_1]
      rw [t1, Option.bind_some]
    · rw [uI_2, uA_ne (by omega), uA_ne (by omega), uA_ne (by omega), uA_nj hd]
    · rw [uI_2, uA_ne (by omega), uA_nj hd, uA_ne (by omega), uA_ne (by omega)]
    · rw [uI_2, uA_ne (by omega), uA_ne (by omega), uA_nj hd, uA_ne (by omega)]
    · rw [uI_2, uA_nj hd, uA_ne (by omega), uA_ne (by omega), uA_ne (by omega)]
    · rw [uI_2, uA_ne (by omega), uA_ne (by omega), uA_ne (by omega), uA_ne (by omega)]
    · rw [uI_2, uA_ne (by omega), uA_ne (by omega), uA_ne (by omega), uA_ne (by omega)]
    · rw [t5, uI_2, uA_ne (by omega), uA_ne (by omega), uA_ne (by omega), uA_eq]
    · rw [t6, uI_2, uA_ne (by omega), uA_ne (by omega), uA_eq]
  obtain ⟨τ1, s1, s2, s3, s4, s5, s6⟩ := r10
  have spr0 : spr (adjP υ (nbE bk E)) f (upF f (12 * b + l) L.length) (12 * b + l) L.length [12 * b + l] := by
    have : spr (adjP υ (nbE bk E)) f f (12 * b + l) L.length [] := ⟨fun x d h => h, fun x d h => Or.inl h, fun x => by simp [fresh x], List.nodup_nil⟩
    exact this.up h0 (Rch.rf _ _)
  have hok0 : ∀ x d, upF f (12 * b + l) L.length x = some d → okS υ x ∧ d < 192 := fun x d hx => by
    unfold upF at hx
    by_cases z : x = 12 * b + l
    · rw [if_pos z] at hx
      rw [z, ← Option.some.inj hx]
      exact ⟨oks, L1⟩
    · rw [if_neg z] at hx
      have := hP.1 x d hx
      exact ⟨this.1, by omega⟩
  obtain ⟨τ2, g, Q, u1, u2, u3, u4, u5, u6, u7, u8, u9, u10⟩ := spread_out hv net hl (f0 := f) (s := 12 * b + l) (c := L.length) L1 192 0 1000 τ1 _ _ rfl (by omega) (Nat.zero_le _) (hE.kp s3) s2 spr0 hok0 (fun x hx => by rw [List.mem_singleton] at hx; rw [hx]; exact Rch.rf _ _) (fun k' x hk' => by omega)
  have keep : ∀ x, f x ≠ none → g x ≠ none := fun x hx => u9 x (by
    unfold upF
    by_cases z : x = 12 * b + l
    · rw [if_pos z]; simp
    · rw [if_neg z]; exact hx)
  have gs0 : g (12 * b + l) ≠ none := u9 _ (by unfold upF; rw [if_pos rfl]; simp)
  have gs : g (12 * b + l) = some L.length := by
    cases hg : g (12 * b + l) with
    | none => exact absurd hg gs0
    | some d =>
      rcases u7.2.1 _ d hg with z | z
      · rw [h0] at z; cases z
      · rw [z.1]
  have gd : ∀ d, d < L.length → ∀ x, f x = some d ↔ g x = some d := fun d hd x => by
    refine ⟨u7.1 x d, fun hx => ?_⟩
    rcases u7.2.1 x d hx with z | z
    · exact z
    · omega
  have n1 : τ1.1 1 1 = nI (wn υ) := by
    rw [(s3.1 1 (by omega)).1, (hkp.1 1 (by omega)).1]
    exact hv.1
  refine ⟨τ1, τ2, g, s1, u1, n1, u6.2.1, s3.tr u2, u6.1, ?_, ?_, keep, gs0, fun x => (u3.2.1 x).trans (s4.2.1 x), fun x => (u3.2.2 x).trans (s4.2.2 x)⟩
  · exact part_new hP (fun x y h => adjP_sy hsy hne h) (fun x y h => adjP_ok h) oks h0 hlow hL u7.1 u7.2.1 gs u10
  · intro c s hc
    rcases app_get hc with ⟨d1, d2⟩ | ⟨d1, d2⟩
    · obtain ⟨x1, x2, x3, x4⟩ := hB c s d2
      obtain ⟨y1, y2, y3, y4⟩ := u3.1 c (by omega)
      obtain ⟨z1, z2, z3, z4⟩ := s4.1 c (by omega)
      refine ⟨by rw [y1, z1]; exact x1, by rw [y3, z3]; exact x2, by rw [y2, z2, x3, cntF_eq (gd c d1)], ?_⟩
      rw [y4, z4]
      exact mskP_eq x4 (gd c d1)
    · subst d1 d2
      refine ⟨?_, ?_, u6.2.2.2.2.1, u6.2.2.2.2.2⟩
      · rw [u4, s5, show (12 * b + l) / 12 = b by omega, show (12 * b + l) % 12 = l by omega]
      · rw [u5, s6]
/-- where the class stands between two slots -/
def gat (υ ρ σ : rS) (bk : Nat × Nat → Bool) (E : List (Nat × Nat)) (f : Nat → Option Nat) (L : List Nat) (s : Nat) : Prop := Kp oC υ σ ∧ envC υ σ bk E ∧ levS σ υ (wn υ) ∧ numF σ 26 f ∧ σ.1 25 5 = nI L.length ∧ part (adjP υ (nbE bk E)) (okS υ) f L ∧ (∀ x, okS υ x → x < s → f x ≠ none) ∧ (∀ t ∈ L, t < s) ∧ bedC σ υ f L ∧ Kp oD ρ σ
theorem gat.kpo {ρ σ : rS} {f : Nat → Option Nat} {L : List Nat} {s s' : Nat} (h : gat υ ρ σ bk E f L s) (hs : s ≤ s') (ho : ∀ x, okS υ x → x < s' → x < s) : gat υ ρ σ bk E f L s' := ⟨h.1, h.2.1, h.2.2.1, h.2.2.2.1, h.2.2.2.2.1, h.2.2.2.2.2.1, fun x hx hl => h.2.2.2.2.2.2.1 x hx (ho x hx hl), fun t ht => Nat.lt_of_lt_of_le (h.2.2.2.2.2.2.2.1 t ht) hs, h.2.2.2.2.2.2.2.2⟩
theorem gat_in {ρ : rS} (hv : VB υ) (net : netE (wn υ) (wP υ) E) (hl : E.length ≤ 42) {k47 : Int32 → rS → Option (Unit × rS)} {b : Nat} (hb : b < wn υ) : ∀ (r l fuel : Nat) (σ : rS) (f : Nat → Option Nat) (L : List Nat), l + r = wl υ b → r < fuel → gat υ ρ σ bk E f L (12 * b + l) → ∃ τ g K, lX0_gather_68 k47 fuel (nI b) (80 + 4 * b) (nI l) σ = k47 (nI (b + 1)) τ ∧ gat υ ρ τ bk E g K (12 * (b + 1)) := by
  have h16 := hv.2.1
  obtain ⟨lb1, lb⟩ := l_ok hv hb
  intro r
  induction r with
  | zero =>
    intro l fuel σ f L hl' hfu hG
    obtain ⟨fu, rfl⟩ : ∃ fu, fuel = fu + 1 := ⟨fuel - 1, by omega⟩
    obtain rfl : l = wl υ b := by omega
    have lb2 : σ.1 (80 + 4 * b) 4 = nI (wl υ b) := by rw [(hG.1.1 _ (by omega)).1]; exact lb1
    refine ⟨σ, f, L, ?_, hG.kpo (by omega) (fun x hx hlt => ?_)⟩
    · rw [lX0_gather_68, if_pos (bo_ok (by omega)), lb2, if_pos ((kle (by omega) (by omega)).mpr (Nat.le_refl _)), vI_d, k1]
    · obtain ⟨a, i, h1, h2, h3⟩ := hx
      have := (l_ok hv h1).2
      by_cases z : a = b
      · subst z; omega
      · omega
  | succ r ih =>
    intro l fuel σ f L hl' hfu hG
    obtain ⟨fu, rfl⟩ : ∃ fu, fuel = fu + 1 := ⟨fuel - 1, by omega⟩
    obtain ⟨g1, g2, g3, g4, g5, g6, g7, g8, g9⟩ := hG
    have lb2 : σ.1 (80 + 4 * b) 4 = nI (wl υ b) := by rw [(g1.1 _ (by omega)).1]; exact lb1
    have sl : nI b * 12 + nI l = nI (12 * b + l) := by
      show nI b * nI 12 + nI l = _
      rw [kmul, kadd, Nat.mul_comm]
    have wk1 : σ.2.2.1 (80 + 4 * b + 2) l = wk υ b l := (g1.1 _ (by omega)).2.2 l
    rw [lX0_gather_68, if_pos (bo_ok (by omega)), lb2, if_neg (by rw [kle (by omega) (by omega)]; omega)]
    unfold fX11_slotOf jX0_gather_133
    simp only [Option.bind_some, sl, kinB (show 12 * b + l < 2147483648 by omega), decide_eq_true (show 12 * b + l < 192 by omega), if_true, kc (show 12 * b + l < 2147483648 by omega), g4 (12 * b + l) (by omega), if_pos (bo_ok (show b < 16 by omega)), if_pos (ki_ok (show b < 16 by omega)), kinB (show l < 2147483648 by omega), decide_eq_true (show l < 12 by omega), kc (show l < 2147483648 by omega), wk1, vI_d, k1]
    have low : ∀ g : Nat → Option Nat, (∀ x, f x ≠ none → g x ≠ none) → g (12 * b + l) ≠ none → ∀ x, okS υ x → x < 12 * b + (l + 1) → g x ≠ none := fun g h1 h2 x hx hlt => by
      by_cases z : x = 12 * b + l
      · rw [z]; exact h2
      · exact h1 x (g7 x hx (by omega))
    cases hf : f (12 * b + l) with
    | some d =>
      have dl := (g6.1 _ d hf).2
      have L192 : L.length ≤ 192 := by
        have Lnd : L.Nodup := by
          rw [List.nodup_iff_pairwise_ne, List.pairwise_iff_getElem]
          intro i j hi hj hij
          have := g6.2.2.2 i j hij hj
          dsimp only at this
          rw [List.getD_eq_getElem?_getD, List.getD_eq_getElem?_getD, List.getElem?_eq_getElem hi, List.getElem?_eq_getElem hj] at this
          exact Nat.ne_of_lt this
        exact nd_le 192 L Lnd (fun x hx => by have := g8 x hx; omega)
      have oj : oI (some d) = nI d := rfl
      rw [oj, if_neg (kne1 (by omega))]
      exact ih (l + 1) fu σ f L (by omega) (by omega) ⟨g1, g2, g3, g4, g5, g6, low f (fun x h => h) (by rw [hf]; simp), fun t ht => by have := g8 t ht; omega, g9⟩
    | none =>
      rw [if_pos (show oI none = -1 from rfl)]
      obtain ⟨τ1, τ2, g, u1, u2, u3, u4, u5, u6, u7, u8, u9, u10, u11, u12⟩ := c_bed hv net hl hb (show l < wl υ b by omega) g1 g2 g4 g5 g6 g7 g8 g9.1 hf
      rw [u1, Option.bind_some, u3, u2, Option.bind_some, vS_d, u4, k1]
      have kk : Kp oD σ (uI τ2 25 5 (nI (L.length + 1))) := u5.tr (Kp.uI (by omega))
      refine ih (l + 1) fu (uI τ2 25 5 (nI (L.length + 1))) g (L ++ [12 * b + l]) (by omega) (by omega) ⟨g1.tr (kk.mono oD_oC), g2.kp kk, fun b' l' h1 h2 => ?_, u6, by rw [uI_eq, List.length_append]; rfl, u7, low g u9 u10, fun t ht => ?_, u8, g9.2.tr kk⟩
      · rw [uI_2, u11, u12]
        exact g3 b' l' h1 h2
      · rcases List.mem_append.mp ht with z | z
        · have := g8 t z; omega
        · rw [List.mem_singleton] at z; omega
theorem gat_mid {ρ : rS} (hv : VB υ) (net : netE (wn υ) (wP υ) E) (hl : E.length ≤ 42) : ∀ (r b fuel : Nat) (σ : rS) (f : Nat → Option Nat) (L : List Nat), b + r = wn υ → r < fuel → gat υ ρ σ bk E f L (12 * b) → ∃ τ g K, lX0_gather_47 fuel (nI b) σ = some ((), τ) ∧ gat υ ρ τ bk E g K (12 * wn υ) := by
  have h16 := hv.2.1
  intro r
  induction r with
  | zero =>
    intro b fuel σ f L hb hfu hG
    obtain ⟨fu, rfl⟩ : ∃ fu, fuel = fu + 1 := ⟨fuel - 1, by omega⟩
    obtain rfl : b = wn υ := by omega
    have e : σ.1 1 1 = nI (wn υ) := by rw [(hG.1.1 1 (by omega)).1]; exact hv.1
    refine ⟨σ, f, L, ?_, hG⟩
    rw [lX0_gather_47, e, if_pos ((kle (by omega) (by omega)).mpr (Nat.le_refl _))]
  | succ r ih =>
    intro b fuel σ f L hb hfu hG
    obtain ⟨fu, rfl⟩ : ∃ fu, fuel = fu + 1 := ⟨fuel - 1, by omega⟩
    have e : σ.1 1 1 = nI (wn υ) := by rw [(hG.1.1 1 (by omega)).1]; exact hv.1
    have lb := (l_ok hv (show b < wn υ by omega)).2
    obtain ⟨τ, g, K, t1, t2⟩ := gat_in hv net hl (k47 := lX0_gather_47 fu) (show b < wn υ by omega) (wl υ b) 0 1000 σ f L (by omega) (by omega) hG
    obtain ⟨τ2, g2, K2, u1, u2⟩ := ih (b + 1) fu τ g K (by omega) (by omega) t2
    refine ⟨τ2, g2, K2, ?_, u2⟩
    rw [← u1, ← t1, lX0_gather_47, e, if_neg (by rw [kle (by omega) (by omega)]; omega), kinB (by omega), decide_eq_true (show b < 16 by omega), if_pos rfl, kc (by omega)]
    rfl
theorem meas_all (hv : VB υ) : ∀ (r b fuel : Nat) (σ : rS), b + r = wn υ → r < fuel → Kp oC υ σ → levS σ υ b → ∃ τ, lX0_gather_16 fuel (nI b) σ = lX0_gather_47 1000 0 τ ∧ Kp (fun n => n = 31 ∨ n = 32) σ τ ∧ levS τ υ (wn υ) := by
  have h16 := hv.2.1
  intro r
  induction r with
  | zero =>
    intro b fuel σ hb hfu hkp hL
    obtain ⟨fu, rfl⟩ : ∃ fu, fuel = fu + 1 := ⟨fuel - 1, by omega⟩
    obtain rfl : b = wn υ := by omega
    have e : σ.1 1 1 = nI (wn υ) := by rw [(hkp.1 1 (by omega)).1]; exact hv.1
    refine ⟨σ, ?_, Kp.rf _ _, hL⟩
    rw [lX0_gather_16, e, if_pos ((kle (by omega) (by omega)).mpr (Nat.le_refl _))]
  | succ r ih =>
    intro b fuel σ hb hfu hkp hL
    obtain ⟨fu, rfl⟩ : ∃ fu, fuel = fu + 1 := ⟨fuel - 1, by omega⟩
    have e : σ.1 1 1 = nI (wn υ) := by rw [(hkp.1 1 (by omega)).1]; exact hv.1
    obtain ⟨τ, t1, t2, t3, t4⟩ := c_measure hv (show b < wn υ by omega) hkp
    obtain ⟨τ2, u1, u2, u3⟩ := ih (b + 1) fu τ (by omega) (by omega) (hkp.tr (t2.mono (fun n h => by omega))) (fun b' l h1 h2 => by
      by_cases z : b' = b
      · rw [z] at h2 ⊢; exact t4 l h2
      · have lb := (l_ok hv (show b' < wn υ by omega)).2
        rw [(t3 _ (by omega)).1, (t3 _ (by omega)).2]
        exact hL b' l (by omega) h2)
    refine ⟨τ2, ?_, t2.tr u2, u3⟩
    rw [lX0_gather_16, e, if_neg (by rw [kle (by omega) (by omega)]; omega), kinB (by omega), decide_eq_true (show b < 16 by omega), if_pos rfl, kc (by omega), t1, Option.bind_some, vI_d, k1, u1]
theorem c_fill26 (v : Int32) (σ : rS) : ∃ τ, fJ7_fill_53178_a26 v σ = some ((), τ) ∧ (∀ k, k < 192 → τ.2.2.1 26 k = v) ∧ Kp (fun n => n = 26) σ τ := by
  have loop : ∀ (r k fuel : Nat) (σ : rS), k + r = 192 → r < fuel → (∀ j, j < k → σ.2.2.1 26 j = v) → ∃ τ, lJ7_fill_53178_a26_5 fuel v (nI k) (nI 192) σ = some ((), τ) ∧ (∀ k, k < 192 → τ.2.2.1 26 k = v) ∧ Kp (fun n => n = 26) σ τ := by
    intro r
    induction r with
    | zero =>
      intro k fuel σ hk hfu h
      obtain ⟨fu, rfl⟩ : ∃ fu, fuel = fu + 1 := ⟨fuel - 1, by omega⟩
      refine ⟨σ, ?_, fun j hj => h j (by omega), Kp.rf _ _⟩
      rw [lJ7_fill_53178_a26_5, if_pos ((kle (by omega) (by omega)).mpr (by omega))]
    | succ r ih =>
      intro k fuel σ hk hfu h
      obtain ⟨fu, rfl⟩ : ∃ fu, fuel = fu + 1 := ⟨fuel - 1, by omega⟩
      obtain ⟨τ, t1, t2, t3⟩ := ih (k + 1) fu (uA σ 26 k v) (by omega) (by omega) (fun j hj => by
        by_cases c : j = k
        · subst c; exact uA_eq _ _ _ _
        · rw [uA_nj c]; exact h j (by omega))
      refine ⟨τ, ?_, t2, (Kp.uA (O := fun n => n = 26) rfl).tr t3⟩
      rw [← t1, lJ7_fill_53178_a26_5, if_neg (by rw [kle (by omega) (by omega)]; omega), kinB (by omega), decide_eq_true (show k < 192 by omega)]
      simp only [if_true, vS_d, vI_d, k1, kc (show k < 2147483648 by omega)]
  have := loop 192 0 1000 σ rfl (by omega) (fun j hj => by omega)
  unfold fJ7_fill_53178_a26
  rw [vI_d]
  exact this
theorem c_gather (hv : VB υ) (net : netE (wn υ) (wP υ) E) (hl : E.length ≤ 42) {σ : rS} (hkp : Kp oC υ σ) (hE : envC υ σ bk E) : ∃ τ f L, fX0_gather σ = some ((), τ) ∧ Kp oD σ τ ∧ good (adjP υ (nbE bk E)) (okS υ) f L ∧ gat υ σ τ bk E f L (12 * wn υ) := by
  have h16 := hv.2.1
  obtain ⟨τ1, t1, t2, t3⟩ := c_fill26 (-1) (uI σ 25 5 0)
  have k1' : Kp oD σ τ1 := (Kp.uI (by omega)).tr (t3.mono (fun n h => by omega))
  obtain ⟨τ2, u1, u2, u3⟩ := meas_all hv (wn υ) 0 1000 τ1 (by omega) (by omega) (hkp.tr (k1'.mono oD_oC)) (fun b l h => by omega)
  have k2 : Kp oD σ τ2 := k1'.tr (u2.mono (fun n h => by omega))
  obtain ⟨τ3, f, L, w1, w2⟩ := gat_mid hv net hl (bk := bk) (wn υ) 0 1000 τ2 (fun _ => none) [] (by omega) (by omega) ⟨hkp.tr (k2.mono oD_oC), hE.kp k2, u3, fun x hx => by rw [(u2.1 26 (by omega)).2.2, t2 x hx]; rfl, by rw [(u2.1 25 (by omega)).1, (t3.1 25 (by omega)).1, uI_eq]; rfl, ⟨fun x c h => (by cases h), fun x y c _ h => (by cases h), fun c s h => (by simp at h), fun i j h h2 => by have : j < 0 := h2; omega⟩, fun x hx h => by omega, fun t h => (by cases h), fun c s h => (by simp at h), k2⟩
  refine ⟨τ3, f, L, ?_, ?_, ⟨w2.2.2.2.2.2.1, fun x hx => w2.2.2.2.2.2.2.1 x hx ?_⟩, w2⟩
  · unfold fX0_gather
    rw [vS_d, t1, Option.bind_some]
    rw [show nI 0 = 0 from rfl] at u1 w1
    rw [u1]
    exact w1
  · exact w2.2.2.2.2.2.2.2.2.2
  · obtain ⟨a, i, h1, h2, h3⟩ := hx
    have := (l_ok hv h1).2
    omega
end Gat
