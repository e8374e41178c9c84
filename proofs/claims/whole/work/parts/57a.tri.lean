/-! THE TRIANGLES, over whole numbers; there are at most 27. -/
def tcL (q : Nat → Nat → Nat → Bool) (a b : Nat) : Nat → Nat → List (Nat × Nat × Nat)
  | 0, _ => []
  | r + 1, c => (if q a b c = true then [(a, b, c)] else []) ++ tcL q a b r (c + 1)
def tbL (q : Nat → Nat → Nat → Bool) (n a : Nat) : Nat → Nat → List (Nat × Nat × Nat)
  | 0, _ => []
  | r + 1, b => tcL q a b (n - (b + 1)) (b + 1) ++ tbL q n a r (b + 1)
def taL (q : Nat → Nat → Nat → Bool) (n : Nat) : Nat → Nat → List (Nat × Nat × Nat)
  | 0, _ => []
  | r + 1, a => tbL q n a (n - (a + 1)) (a + 1) ++ taL q n r (a + 1)
theorem tcL_m {q : Nat → Nat → Nat → Bool} {a b : Nat} {t : Nat × Nat × Nat} : ∀ {r c : Nat}, t ∈ tcL q a b r c → t.1 = a ∧ t.2.1 = b ∧ c ≤ t.2.2 ∧ t.2.2 < c + r ∧ q t.1 t.2.1 t.2.2 = true
  | 0, c, h => (by cases h)
  | r + 1, c, h => by
    rw [tcL] at h
    rcases List.mem_append.mp h with z | z
    · by_cases hq : q a b c = true
      · rw [if_pos hq] at z
        obtain rfl : t = (a, b, c) := by simpa using z
        exact ⟨rfl, rfl, Nat.le_refl _, by show c < c + (r + 1); omega, hq⟩
      · rw [if_neg hq] at z; cases z
    · obtain ⟨h1, h2, h3, h4, h5⟩ := tcL_m z
      exact ⟨h1, h2, by omega, by omega, h5⟩
theorem tcL_d {q : Nat → Nat → Nat → Bool} {a b : Nat} : ∀ {r c : Nat}, (tcL q a b r c).Nodup
  | 0, c => List.nodup_nil
  | r + 1, c => by
    rw [tcL, List.nodup_append]
    refine ⟨?_, tcL_d, fun x hx y hy hxy => ?_⟩
    · by_cases hq : q a b c = true
      · rw [if_pos hq]; simp
      · rw [if_neg hq]; exact List.nodup_nil
    · by_cases hq : q a b c = true
      · rw [if_pos hq] at hx
        obtain rfl : x = (a, b, c) := by simpa using hx
        subst hxy
        have := (tcL_m hy).2.2.1
        dsimp only at this
        omega
      · rw [if_neg hq] at hx; cases hx
theorem tbL_m {q : Nat → Nat → Nat → Bool} {n a : Nat} {t : Nat × Nat × Nat} : ∀ {r b : Nat}, b + r = n → t ∈ tbL q n a r b → t.1 = a ∧ b ≤ t.2.1 ∧ t.2.1 < t.2.2 ∧ t.2.2 < n ∧ q t.1 t.2.1 t.2.2 = true
  | 0, b, _, h => (by cases h)
  | r + 1, b, hb, h => by
    rw [tbL] at h
    rcases List.mem_append.mp h with z | z
    · obtain ⟨h1, h2, h3, h4, h5⟩ := tcL_m z
      exact ⟨h1, by omega, by omega, by omega, h5⟩
    · obtain ⟨h1, h2, h3, h4, h5⟩ := tbL_m (by omega) z
      exact ⟨h1, by omega, h3, h4, h5⟩
theorem tbL_d {q : Nat → Nat → Nat → Bool} {n a : Nat} : ∀ {r b : Nat}, b + r = n → (tbL q n a r b).Nodup
  | 0, b, _ => List.nodup_nil
  | r + 1, b, hb => by
    rw [tbL, List.nodup_append]
    refine ⟨tcL_d, tbL_d (by omega), fun x hx y hy hxy => ?_⟩
    subst hxy
    have := (tcL_m hx).2.1
    have := (tbL_m (by omega) hy).2.1
    omega
theorem taL_m {q : Nat → Nat → Nat → Bool} {n : Nat} {t : Nat × Nat × Nat} : ∀ {r a : Nat}, a + r = n → t ∈ taL q n r a → a ≤ t.1 ∧ t.1 < t.2.1 ∧ t.2.1 < t.2.2 ∧ t.2.2 < n ∧ q t.1 t.2.1 t.2.2 = true
  | 0, a, _, h => (by cases h)
  | r + 1, a, ha, h => by
    rw [taL] at h
    rcases List.mem_append.mp h with z | z
    · obtain ⟨h1, h2, h3, h4, h5⟩ := tbL_m (by omega) z
      exact ⟨by omega, by omega, h3, h4, h5⟩
    · obtain ⟨h1, h2, h3, h4, h5⟩ := taL_m (by omega) z
      exact ⟨by omega, h2, h3, h4, h5⟩
theorem taL_d {q : Nat → Nat → Nat → Bool} {n : Nat} : ∀ {r a : Nat}, a + r = n → (taL q n r a).Nodup
  | 0, a, _ => List.nodup_nil
  | r + 1, a, ha => by
    rw [taL, List.nodup_append]
    refine ⟨tbL_d (by omega), taL_d (by omega), fun x hx y hy hxy => ?_⟩
    subst hxy
    have := (tbL_m (by omega) hx).1
    have := (taL_m (by omega) hy).1
    omega
/-- the neighbours and the triangles of a net -/
def nbE (bk : Nat × Nat → Bool) (E : List (Nat × Nat)) (a b : Nat) : Bool := (jnE bk E a b).isSome
def bareT (n : Nat) (p : Nat → zP) (a b c : Nat) : Bool := !anyF (fun k => decide (k ≠ a ∧ k ≠ b ∧ k ≠ c) && inZ (p a) (p b) (p c) (p k)) n 0
def triB (n : Nat) (p : Nat → zP) (nb : Nat → Nat → Bool) (a b c : Nat) : Bool := nb a b && (nb a c && (nb b c && (decide (tz (p a) (p b) (p c) ≠ 0) && bareT n p a b c)))
def TL (n : Nat) (p : Nat → zP) (nb : Nat → Nat → Bool) : List (Nat × Nat × Nat) := taL (triB n p nb) n n 0
theorem nb_mem {bk : Nat × Nat → Bool} {E : List (Nat × Nat)} {a b : Nat} (h : nbE bk E a b = true) : (a, b) ∈ E ∨ (b, a) ∈ E := by
  unfold nbE jnE at h
  rw [List.findIdx?_isSome, List.any_eq_true] at h
  obtain ⟨e, he, h⟩ := h
  rw [Bool.and_eq_true] at h
  have := of_decide_eq_true h.1
  rcases this with z | z
  · left
    rw [← z.1, ← z.2]
    exact he
  · right
    rw [← z.1, ← z.2]
    exact he
theorem ori_mem {p : Nat → zP} {E : List (Nat × Nat)} {u x : Nat} (h : (u, x) ∈ E ∨ (x, u) ∈ E) (hux : gX p u < gX p x) : (u, x) ∈ E.map (oriE p) := by
  rcases h with h | h
  · refine List.mem_map.mpr ⟨_, h, ?_⟩
    unfold oriE
    rw [if_pos hux]
  · refine List.mem_map.mpr ⟨_, h, ?_⟩
    unfold oriE
    rw [if_neg (by show ¬ gX p x < gX p u; omega)]
def srt3 (X : Nat → Int) (t : Nat × Nat × Nat) : Nat × Nat × Nat :=
  if X t.1 < X t.2.1 then (if X t.2.1 < X t.2.2 then t else if X t.1 < X t.2.2 then (t.1, t.2.2, t.2.1) else (t.2.2, t.1, t.2.1))
  else (if X t.1 < X t.2.2 then (t.2.1, t.1, t.2.2) else if X t.2.1 < X t.2.2 then (t.2.1, t.2.2, t.1) else (t.2.2, t.2.1, t.1))
theorem srt3_c (X : Nat → Int) (t : Nat × Nat × Nat) : srt3 X t = (t.1, t.2.1, t.2.2) ∨ srt3 X t = (t.1, t.2.2, t.2.1) ∨ srt3 X t = (t.2.2, t.1, t.2.1) ∨ srt3 X t = (t.2.1, t.1, t.2.2) ∨ srt3 X t = (t.2.1, t.2.2, t.1) ∨ srt3 X t = (t.2.2, t.2.1, t.1) := by
  unfold srt3
  repeat' split
  all_goals simp
theorem srt3_o {X : Nat → Int} {t : Nat × Nat × Nat} (h1 : X t.1 ≠ X t.2.1) (h2 : X t.1 ≠ X t.2.2) (h3 : X t.2.1 ≠ X t.2.2) : X (srt3 X t).1 < X (srt3 X t).2.1 ∧ X (srt3 X t).2.1 < X (srt3 X t).2.2 := by
  unfold srt3
  repeat' split
  all_goals ((try dsimp only); omega)
theorem srt3_i {X : Nat → Int} {s t : Nat × Nat × Nat} (hs : s.1 < s.2.1 ∧ s.2.1 < s.2.2) (ht : t.1 < t.2.1 ∧ t.2.1 < t.2.2) (h : srt3 X s = srt3 X t) : s = t := by
  have e : s.1 = t.1 ∧ s.2.1 = t.2.1 ∧ s.2.2 = t.2.2 := by
    rcases srt3_c X s with a | a | a | a | a | a <;> rcases srt3_c X t with b | b | b | b | b | b <;> rw [a, b] at h <;> have := Prod.mk.inj h <;> have := Prod.mk.inj this.2 <;> omega
  exact Prod.ext e.1 (Prod.ext e.2.1 e.2.2)
theorem tri_len {n : Nat} {p : Nat → zP} {bk : Nat × Nat → Bool} {E : List (Nat × Nat)} (hs : sound n p) (h : netE n p E) : (TL n p (nbE bk E)).length ≤ 27 := by
  have h16 := hs.1
  by_cases c : 3 ≤ n
  · have g := net_g hs.2.1 hs.2.2 h
    have inj := g.1
    have M : ∀ t ∈ TL n p (nbE bk E), t.1 < t.2.1 ∧ t.2.1 < t.2.2 ∧ t.2.2 < n ∧ triB n p (nbE bk E) t.1 t.2.1 t.2.2 = true := fun t ht => (taL_m (by omega) ht).2
    have nd : ((TL n p (nbE bk E)).map (srt3 (gX p))).Nodup := nodup_mapOn (taL_d (by omega)) (fun x hx y hy he => srt3_i ⟨(M x hx).1, (M x hx).2.1⟩ ⟨(M y hy).1, (M y hy).2.1⟩ he)
    have := tris_le g nd c (fun t' ht' => by
      obtain ⟨t, ht, rfl⟩ := List.mem_map.mp ht'
      obtain ⟨m1, m2, m3, m4⟩ := M t ht
      unfold triB at m4
      simp only [Bool.and_eq_true, decide_eq_true_eq] at m4
      obtain ⟨q1, q2, q3, q4, q5⟩ := m4
      have x1 : gX p t.1 ≠ gX p t.2.1 := fun z => by have := inj _ _ (by omega) (by omega) z; omega
      have x2 : gX p t.1 ≠ gX p t.2.2 := fun z => by have := inj _ _ (by omega) (by omega) z; omega
      have x3 : gX p t.2.1 ≠ gX p t.2.2 := fun z => by have := inj _ _ (by omega) (by omega) z; omega
      obtain ⟨o1, o2⟩ := srt3_o x1 x2 x3
      have e1 := nb_mem q1
      have e2 := nb_mem q2
      have e3 := nb_mem q3
      have e1' := e1.symm
      have e2' := e2.symm
      have e3' := e3.symm
      have bare : ∀ d, d < n → d ≠ t.1 → d ≠ t.2.1 → d ≠ t.2.2 → ¬ ((0 ≤ tz (p t.1) (p t.2.1) (p d) ∧ 0 ≤ tz (p t.2.1) (p t.2.2) (p d) ∧ 0 ≤ tz (p t.2.2) (p t.1) (p d)) ∨ (tz (p t.1) (p t.2.1) (p d) ≤ 0 ∧ tz (p t.2.1) (p t.2.2) (p d) ≤ 0 ∧ tz (p t.2.2) (p t.1) (p d) ≤ 0)) := fun d hd d1 d2 d3 z => by
        unfold bareT at q5
        rw [Bool.not_eq_true'] at q5
        have := anyF_f.mp q5 d (by omega) (by omega)
        unfold inZ at this
        rw [decide_eq_true ⟨d1, d2, d3⟩, decide_eq_true z] at this
        cases this
      refine ⟨decide (gO (gX p) (gY p) (srt3 (gX p) t).1 (srt3 (gX p) t).2.2 (srt3 (gX p) t).2.1 < 0), ?_, ?_, ?_, ?_, fun d hd d1 d2 d3 => ?_⟩
      · apply ori_mem _ o1
        rcases srt3_c (gX p) t with z | z | z | z | z | z <;> rw [z] <;> assumption
      · apply ori_mem _ o2
        rcases srt3_c (gX p) t with z | z | z | z | z | z <;> rw [z] <;> assumption
      · apply ori_mem _ (Int.lt_trans o1 o2)
        rcases srt3_c (gX p) t with z | z | z | z | z | z <;> rw [z] <;> assumption
      · have nz : gO (gX p) (gY p) (srt3 (gX p) t).1 (srt3 (gX p) t).2.2 (srt3 (gX p) t).2.1 ≠ 0 := by
          rw [gO_tz]
          have c1 := tz_cy (p t.1) (p t.2.1) (p t.2.2)
          have c2 := tz_cy (p t.2.1) (p t.2.2) (p t.1)
          have s1 := tz_sw (p t.1) (p t.2.1) (p t.2.2)
          have s2 := tz_sw (p t.2.1) (p t.2.2) (p t.1)
          have s3 := tz_sw (p t.2.2) (p t.1) (p t.2.1)
          rcases srt3_c (gX p) t with z | z | z | z | z | z <;> rw [z] <;> dsimp only <;> omega
        by_cases s : gO (gX p) (gY p) (srt3 (gX p) t).1 (srt3 (gX p) t).2.2 (srt3 (gX p) t).2.1 < 0
        · rw [decide_eq_true s, if_pos rfl]; exact s
        · rw [decide_eq_false s, if_neg (by simp)]; omega
      · have dd : d ≠ t.1 ∧ d ≠ t.2.1 ∧ d ≠ t.2.2 := by
          rcases srt3_c (gX p) t with z | z | z | z | z | z <;> rw [z] at d1 d2 d3 <;> dsimp only at d1 d2 d3 <;> omega
        have b := bare d hd dd.1 dd.2.1 dd.2.2
        rw [gO_tz, gO_tz, gO_tz]
        have s1 := tz_sw (p t.1) (p t.2.1) (p d)
        have s2 := tz_sw (p t.2.1) (p t.2.2) (p d)
        have s3 := tz_sw (p t.2.2) (p t.1) (p d)
        rcases srt3_c (gX p) t with z | z | z | z | z | z <;> rw [z] <;> dsimp only <;> omega)
    rw [List.length_map] at this
    omega
  · have : TL n p (nbE bk E) = [] := List.eq_nil_iff_forall_not_mem.mpr (fun t ht => by
      have := taL_m (by omega) ht
      omega)
    rw [this]
    exact Nat.zero_le _
