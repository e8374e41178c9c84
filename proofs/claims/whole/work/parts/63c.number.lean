/-! A NUMBER AT THE END OF THE CLASS'S BUILDER. -/
theorem ab_le {v : Int32} (h : okR (-100000) 100000 v) : ab v ≤ 100000 := by unfold ab; unfold okR at h; omega
theorem ab_n {v : Int32} (h : v < 0) : v.toInt = -(ab v : Int) := by
  rw [i_lt] at h
  have e0 : (0 : Int32).toInt = 0 := rfl
  unfold ab; omega
theorem ab_p {v : Int32} (h : ¬ v < 0) : v.toInt = (ab v : Int) := by
  rw [i_lt] at h
  have e0 : (0 : Int32).toInt = 0 := rfl
  unfold ab; omega
theorem dig_n {v : Int32} (h : v < 0) : dig v = 45 :: dgE (nd (ab v)) (ab v) := by unfold dig; rw [if_pos h]; rfl
theorem dig_p {v : Int32} (h : ¬ v < 0) : dig v = dgE (nd (ab v)) (ab v) := by unfold dig; rw [if_neg h]; rfl
theorem dig_7 (v : Int32) : (dig v).length ≤ 7 := by
  have := nd_6 (ab v)
  by_cases c : v < 0
  · rw [dig_n c, List.length_cons, dgE_len]; omega
  · rw [dig_p c, dgE_len]; omega
theorem c_sizeV {v : Int32} (h : okR (-100000) 100000 v) (σ : rS) : fJ6_stringSize_0f7a4 v σ = some (nI (dig v).length, σ) := by
  have hm := ab_le h
  have n6 := nd_6 (ab v)
  unfold fJ6_stringSize_0f7a4 jJ6_stringSize_0f7a4_11
  by_cases c : v < 0
  · have l := c_size hm (ab_n c) 1 σ (nd (ab v) - 1) 1 1000 (-10) (by omega) (by omega) (by omega) rfl
    rw [if_pos c, dig_n c, List.length_cons, dgE_len]
    refine Eq.trans l ?_
    have e : nI (nd (ab v)) + 1 = nI (nd (ab v) + 1) := kadd _ 1
    rw [e]
  · have e0 : (-v).toInt = -(ab v : Int) := by have := ab_p c; rw [i_neg (by omega), this]
    have l := c_size hm e0 0 σ (nd (ab v) - 1) 1 1000 (-10) (by omega) (by omega) (by omega) rfl
    rw [if_neg c, dig_p c, dgE_len, vI_d]
    refine Eq.trans l ?_
    have e : nI (nd (ab v)) + 0 = nI (nd (ab v) + 0) := kadd _ 0
    rw [e]; rfl
theorem wr_in {f : Nat → Int32} {p d m k : Nat} (hk : k < d) : (dgE d m)[k]? = some (wr f p d m (p + k)) := by
  have e : p + d - 1 - (p + k) = d - 1 - k := by omega
  rw [dgE_get hk]
  unfold wr
  rw [if_pos (by omega), e]
theorem wr_out {f : Nat → Int32} {p d m k : Nat} (hk : k < p) : wr f p d m k = f k := by unfold wr; rw [if_neg (by omega)]
theorem wr_ok {f : Nat → Int32} {p d m n : Nat} (hf : ∀ k, k < n → okR 0 127 (f k)) : ∀ k, k < n → okR 0 127 (wr f p d m k) := by
  intro k hk
  unfold wr
  by_cases z : p ≤ k ∧ k < p + d
  · rw [if_pos z]; exact r127 (by omega)
  · rw [if_neg z]; exact hf k hk
theorem c_get {v : Int32} (h : okR (-100000) 100000 v) {σ : rS} {L : Nat} (hL : L + (dig v).length ≤ σ.2.2.2.2.1) (h142 : σ.2.2.2.2.1 ≤ 142) (hf : ∀ k, k < σ.2.2.2.2.1 → okR 0 127 (σ.2.2.2.2.2 k)) : ∃ x g, fJ6_getChars_ba4f3 v (nI (L + (dig v).length)) σ = some (x, uB σ σ.2.2.2.2.1 g) ∧ (∀ k, k < L → g k = σ.2.2.2.2.2 k) ∧ (∀ k, k < (dig v).length → (dig v)[k]? = some (g (L + k))) ∧ ∀ k, k < σ.2.2.2.2.1 → okR 0 127 (g k) := by
  have hm := ab_le h
  have n6 := nd_6 (ab v)
  have hp : ab v < 100 ^ (2 + 1) := by show ab v < 1000000; omega
  unfold fJ6_getChars_ba4f3 jJ6_getChars_ba4f3_12
  by_cases c : v < 0
  · have e0 : ¬ 0 ≤ v := by rw [i_le]; rw [i_lt] at c; omega
    rw [dig_n c, List.length_cons, dgE_len] at hL ⊢
    have l := c_chars 2 (ab v) 1000 v (L + 1) 1 σ hp hm (ab_n c) (by omega) (by omega) h142
    have e1 : L + (nd (ab v) + 1) = L + 1 + nd (ab v) := by omega
    rw [if_neg e0, if_neg (by decide), e1, l]
    unfold jJ6_getChars_ba4f3_104
    have i1 : inB (nI L) (uB σ σ.2.2.2.2.1 (wr σ.2.2.2.2.2 (L + 1) (nd (ab v)) (ab v))).2.2.2.2.1 = true := by
      show inB (nI L) σ.2.2.2.2.1 = true
      rw [kinB (by omega)]; exact decide_eq_true (by omega)
    rw [if_neg (by decide), vI_d, km1 (by omega) (by omega), Nat.add_sub_cancel, i1, if_pos rfl, vS_d, kc (by omega)]
    have b := (byt 45 (by omega)).1
    refine ⟨nI L, upd (wr σ.2.2.2.2.2 (L + 1) (nd (ab v)) (ab v)) L (nI 45), ?_, fun k hk => ?_, fun k hk => ?_, fun k hk => ?_⟩
    · rw [← b]; rfl
    · unfold upd; rw [if_neg (by omega), wr_out (by omega)]
    · cases k with
      | zero => unfold upd; rw [if_pos (by omega)]; rfl
      | succ k =>
        have e2 : L + (k + 1) = L + 1 + k := by omega
        rw [List.getElem?_cons_succ, e2]
        unfold upd
        rw [if_neg (by omega)]
        exact wr_in (by omega)
    · unfold upd
      by_cases z : k = L
      · rw [if_pos z]; exact r127 (by omega)
      · rw [if_neg z]; exact wr_ok hf k hk
  · have e0 : 0 ≤ v := by rw [i_le]; rw [i_lt] at c; omega
    have e1 : (-v).toInt = -(ab v : Int) := by have := ab_p c; rw [i_neg (by omega), this]
    rw [dig_p c, dgE_len] at hL ⊢
    have l := c_chars 2 (ab v) 1000 (-v) L 0 σ hp hm e1 (by omega) (by omega) h142
    rw [if_pos e0, if_pos rfl, vI_d, l]
    unfold jJ6_getChars_ba4f3_104
    rw [if_pos rfl]
    exact ⟨_, _, rfl, fun k hk => wr_out hk, fun k hk => wr_in hk, wr_ok hf⟩
theorem c_num {σ : rS} {s : List Int32} (h : Tx σ s) {v : Int32} (hv : okR (-100000) 100000 v) (hs : s.length + (dig v).length ≤ 142) : ∃ σ', fJ4_append_bf812 v σ = some (40, σ') ∧ Tx σ' (s ++ dig v) ∧ Sb σ σ' := by
  obtain ⟨hB, h1, h2, h3⟩ := h
  have d7 := dig_7 v
  obtain ⟨n, f, e, n1, n2, n3, n4, n5⟩ := c_ens hB (m := s.length + (dig v).length) (by omega) hs
  obtain ⟨x, g, ge, g1, g2, g3⟩ := c_get hv (σ := uB σ n f) (L := s.length) n1 n3.le n5
  have g1 : ∀ k, k < s.length → g k = f k := g1
  have ge : fJ6_getChars_ba4f3 v (nI (s.length + (dig v).length)) (uB σ n f) = some (x, uB σ n g) := ge
  unfold fJ4_append_bf812 fJ5_append_c97b9
  rw [vI_d, c_sizeV hv, Option.bind_some]
  dsimp only
  rw [h1, kadd, vI_d, e, Option.bind_some]
  dsimp only
  rw [c_lat (σ := uB σ n f) hB.1, Option.bind_some]
  dsimp only
  rw [if_neg (by decide), ge, Option.bind_some]
  unfold jJ5_append_c97b9_48
  dsimp only
  rw [vS_d, Option.bind_some]
  refine ⟨_, rfl, ⟨⟨?_, n3, g3⟩, ?_, ?_, fun k hk => ?_⟩, Sb.tr Sb.uB Sb.uI⟩
  · dsimp only
    rw [uI_nj (by omega)]; exact hB.1
  · dsimp only
    rw [uI_eq, List.length_append]
  · rw [List.length_append]; exact n1
  · show (s ++ dig v)[k]? = some (g k)
    rw [List.length_append] at hk
    by_cases z : k < s.length
    · rw [List.getElem?_append_left z, g1 k z, n4 k (by omega)]
      exact h3 k z
    · rw [List.getElem?_append_right (by omega), g2 (k - s.length) (by omega)]
      congr 2
      omega
theorem c_apn {σ : rS} {s : List Int32} (h : Tx σ s) {v : Int32} (hv : okR (-100000) 100000 v) (hs : s.length + 1 + (dig v).length ≤ 142) : ∃ σ', fX1_appendNumber v σ = some ((), σ') ∧ Tx σ' (s ++ 32 :: dig v) ∧ Sb σ σ' := by
  obtain ⟨σ1, e1, t1, s1⟩ := c_app h (by omega) (c := 32) ⟨by decide, by decide⟩
  obtain ⟨σ2, e2, t2, s2⟩ := c_num t1 hv (by rw [List.length_append]; exact hs)
  unfold fX1_appendNumber
  rw [e1, Option.bind_some]
  dsimp only
  rw [e2, Option.bind_some]
  refine ⟨σ2, rfl, ?_, s1.tr s2⟩
  rw [List.append_assoc] at t2
  exact t2
theorem c_setl {σ : rS} (h : VP σ) : ∃ σ', fJ4_setLength_d00df 0 σ = some ((), σ') ∧ Tx σ' [] ∧ Sb σ σ' := by
  obtain ⟨p1, p2, p3, p4, p5⟩ := h
  have hB : Bo σ := ⟨p1, p4, p5⟩
  have c142 : σ.2.2.2.2.1 ≤ 142 := by omega
  unfold fJ4_setLength_d00df fJ5_setLength_d00df
  have e : fJ5_ensureCapacityInternal_d00df 0 σ = some ((), σ) := by
    unfold fJ5_ensureCapacityInternal_d00df
    rw [p1, shr0, vI_d]
    have lec : (0 - Int32.ofNat σ.2.2.2.2.1 ≤ 0) := by
      have e : (Int32.ofNat σ.2.2.2.2.1).toInt = (σ.2.2.2.2.1 : Int) := ki (by omega)
      have e0 : (0 : Int32).toInt = 0 := rfl
      rw [i_le, i_sub (by rw [e, e0]; omega) (by rw [e, e0]; omega), e, e0]
      omega
    rw [if_pos lec]
    rfl
  rw [if_pos (by decide), e, Option.bind_some]
  dsimp only
  have le0 : (0 : Int32) ≤ σ.1 40 3 := by rw [p2]; show nI 0 ≤ nI _; rw [kle (by omega) (by omega)]; omega
  rw [if_pos le0]
  unfold jJ5_setLength_d00df_76
  have fin : ∀ υ : rS, Sb σ υ → υ.1 40 1 = 0 → υ.2.2.2.2 = σ.2.2.2.2 → ∃ σ', ((vS (uI υ 40 3 0) fun σ8 => some ((), σ8)).bind fun q1 => some ((), q1.2)) = some ((), σ') ∧ Tx σ' [] ∧ Sb σ σ' := fun υ u1 u2 u3 => by
    refine ⟨uI υ 40 3 0, rfl, ⟨⟨?_, ?_, ?_⟩, ?_, ?_, fun k hk => absurd hk (by show ¬ k < 0; omega)⟩, u1.tr Sb.uI⟩
    · rw [uI_nj (by omega)]; exact u2
    · show C4 υ.2.2.2.2.1
      rw [u3]; exact p4
    · show ∀ k, k < υ.2.2.2.2.1 → okR 0 127 (υ.2.2.2.2.2 k)
      rw [u3]; exact p5
    · rw [uI_eq]; rfl
    · show 0 ≤ _; omega
  by_cases c : σ.1 40 3 ≤ 0
  · rw [if_pos c]
    exact fin σ (Sb.rf σ) p1 rfl
  · rw [if_neg c]
    exact fin (uI σ 40 2 1) Sb.uI (by rw [uI_nj (by omega)]; exact p1) rfl
