/-! THE TEXT WRITTEN: the class's builder. -/
theorem byt : ∀ n : Nat, n < 128 → vp_nar .byte (nI n) = nI n ∧ vp_nar .byte (nI n).toInt8.toInt32 = nI n ∧ fits .byte (.int (nI n)) = true ∧ vp_nar .char (((nI n).toUInt32 % 65536).toInt32) = nI n ∧ ((((nI n) &&& 255).toUInt32 % 65536).toInt32) = nI n ∧ narrow .char (.int (nI n)) = .int (nI n) ∧ ¬ 255 < nI n := by decide +kernel
theorem b127 {v : Int32} (h : okR 0 127 v) : ∃ n, n < 128 ∧ v = nI n := ⟨v.toNatClampNeg, by have := i_cl h.1; have := h.2; omega, i_nI h.1⟩
theorem r127 {n : Nat} (h : n < 128) : okR 0 127 (nI n) := by unfold okR; rw [ki (by omega)]; omega
theorem shr0 (x : Int32) : x >>> ((0 : Int32) &&& 31) = x := by
  have : ((0 : Int32) &&& 31) = 0 := by decide
  rw [this]; simp
theorem shl0 (x : Int32) : x <<< ((0 : Int32) &&& 31) = x := by
  have : ((0 : Int32) &&& 31) = 0 := by decide
  rw [this]; simp
def C4 (n : Nat) : Prop := n = 16 ∨ n = 34 ∨ n = 70 ∨ n = 142
def Bo (σ : rS) : Prop := σ.1 40 1 = 0 ∧ C4 σ.2.2.2.2.1 ∧ ∀ k, k < σ.2.2.2.2.1 → okR 0 127 (σ.2.2.2.2.2 k)
def Tx (σ : rS) (s : List Int32) : Prop := Bo σ ∧ σ.1 40 3 = nI s.length ∧ s.length ≤ σ.2.2.2.2.1 ∧ ∀ k, k < s.length → s[k]? = some (σ.2.2.2.2.2 k)
def Sb (σ0 σ : rS) : Prop := (∀ n, n ≠ 40 → Eqo σ σ0 n) ∧ σ.2.2.2.1 = σ0.2.2.2.1
theorem Sb.rf (σ : rS) : Sb σ σ := ⟨fun n _ => Eqo.rf σ n, rfl⟩
theorem Sb.tr {σ τ υ : rS} (h1 : Sb σ τ) (h2 : Sb τ υ) : Sb σ υ := ⟨fun n hn => (h2.1 n hn).tr (h1.1 n hn), h2.2.trans h1.2⟩
theorem Sb.uI {σ : rS} {k : Nat} {v : Int32} : Sb σ (uI σ 40 k v) := ⟨fun n hn => ⟨fun j => uI_ne hn, fun _ => rfl, fun _ => rfl⟩, rfl⟩
theorem Sb.uB {σ : rS} {n : Nat} {f : Nat → Int32} : Sb σ (uB σ n f) := ⟨fun n _ => ⟨fun _ => rfl, fun _ => rfl, fun _ => rfl⟩, rfl⟩
theorem C4.le {n : Nat} (h : C4 n) : n ≤ 142 := by unfold C4 at h; omega
theorem c_ens {σ : rS} (h : Bo σ) {m : Nat} (hm : m ≤ σ.2.2.2.2.1 + 8) (h142 : m ≤ 142) : ∃ n f, fJ5_ensureCapacityInternal_d00df (nI m) σ = some ((), uB σ n f) ∧ m ≤ n ∧ σ.2.2.2.2.1 ≤ n ∧ C4 n ∧ (∀ k, k < σ.2.2.2.2.1 → f k = σ.2.2.2.2.2 k) ∧ ∀ k, k < n → okR 0 127 (f k) := by
  obtain ⟨h1, h2, h3⟩ := h
  have c142 := h2.le
  unfold fJ5_ensureCapacityInternal_d00df
  rw [h1, shr0, vI_d]
  have lec : (nI m - Int32.ofNat σ.2.2.2.2.1 ≤ 0) = (m ≤ σ.2.2.2.2.1) := by
    apply propext
    have e : (Int32.ofNat σ.2.2.2.2.1).toInt = (σ.2.2.2.2.1 : Int) := ki (by omega)
    have e1 : (nI m).toInt = (m : Int) := ki (by omega)
    have e0 : (0 : Int32).toInt = 0 := rfl
    rw [i_le, i_sub (by rw [e, e1]; omega) (by rw [e, e1]; omega), e, e1, e0]
    omega
  simp only [lec]
  by_cases c : m ≤ σ.2.2.2.2.1
  · rw [if_pos c]
    exact ⟨σ.2.2.2.2.1, σ.2.2.2.2.2, rfl, c, Nat.le_refl _, h2, fun k _ => rfl, h3⟩
  · rw [if_neg c]
    have hc : fJ5_newCapacity_0f7a4 (nI m) σ = some (nI (2 * σ.2.2.2.2.1 + 2), σ) := by
      unfold fJ5_newCapacity_0f7a4 fJ8_newLength_cabcc
      rw [h1, shl0]
      simp only [vI_d]
      have e : (Int32.ofNat σ.2.2.2.2.1) = nI σ.2.2.2.2.1 := rfl
      have e2 : ((2 : Int32) <<< ((0 : Int32) &&& 31)) = nI 2 := by decide
      have e3 : (if nI (m - σ.2.2.2.2.1) < nI (σ.2.2.2.2.1 + 2) then nI (σ.2.2.2.2.1 + 2) else nI (m - σ.2.2.2.2.1)) = nI (σ.2.2.2.2.1 + 2) := if_pos (by rw [klt (by omega) (by omega)]; unfold C4 at h2; omega)
      rw [e2, e, kadd, ksub (by omega), e3, kadd, if_neg (by show ¬ nI _ ≤ nI 0; rw [kle (by omega) (by omega)]; omega), if_neg (by show ¬ nI 2147483639 < nI _; rw [klt (by omega) (by omega)]; omega), Option.bind_some]
      dsimp only
      rw [if_neg (by show ¬ nI _ = nI 2147483647; rw [keq (by omega) (by omega)]; omega), h1, shr0]
      congr 3
      omega
    rw [hc, Option.bind_some]
    dsimp only
    rw [h1, shl0]
    have g : growB (nI (2 * σ.2.2.2.2.1 + 2)) σ = true := by
      unfold growB
      rw [kc (by omega)]
      have a1 : ¬ nI (2 * σ.2.2.2.2.1 + 2) < 0 := by show ¬ nI _ < nI 0; rw [klt (by omega) (by omega)]; omega
      rw [decide_eq_true (show ¬ nI (2 * σ.2.2.2.2.1 + 2) < 0 ∧ σ.2.2.2.2.1 < 2 * σ.2.2.2.2.1 + 2 ∧ 2 * σ.2.2.2.2.1 + 2 ≤ 142 from ⟨a1, by omega, by unfold C4 at h2; omega⟩), Bool.true_and, List.all_eq_true]
      intro i hi
      obtain ⟨n, hn, e⟩ := b127 (h3 i (List.mem_range.mp hi))
      rw [e]
      exact (byt n hn).2.2.1
    rw [g, if_pos rfl, vS_d, kc (by omega)]
    refine ⟨_, _, rfl, by unfold C4 at h2; omega, by omega, by unfold C4 at h2 ⊢; omega, fun k hk => ?_, fun k hk => ?_⟩
    · unfold va_cpy
      rw [if_pos (by omega), Nat.zero_add, Nat.sub_zero]
    · unfold va_cpy
      by_cases z : k < σ.2.2.2.2.1
      · rw [if_pos (by omega)]
        exact h3 _ (by omega)
      · rw [if_neg (by omega)]
        show okR 0 127 (0 : Int32)
        exact ⟨by decide, by decide⟩
theorem c_lat {σ : rS} (h : σ.1 40 1 = 0) : fJ5_isLatin1_aae02 σ = some (1, σ) := by
  unfold fJ5_isLatin1_aae02 jJ5_isLatin1_aae02_18
  rw [if_neg (by decide), if_pos h, if_pos (by decide)]
theorem c_app {σ : rS} {s : List Int32} (h : Tx σ s) (hs : s.length + 1 ≤ 142) {c : Int32} (hc : okR 0 127 c) : ∃ σ', fJ4_append_cf468 c σ = some (40, σ') ∧ Tx σ' (s ++ [c]) ∧ Sb σ σ' := by
  obtain ⟨hB, h1, h2, h3⟩ := h
  obtain ⟨n, f, e, n1, n2, n3, n4, n5⟩ := c_ens hB (m := s.length + 1) (by omega) hs
  obtain ⟨q, hq, rfl⟩ := b127 hc
  have b := byt q hq
  unfold fJ4_append_cf468 fJ5_append_3fe6f
  have e1 : σ.1 40 3 + 1 = nI (s.length + 1) := by rw [h1]; exact kadd _ 1
  rw [e1, e, Option.bind_some]
  dsimp only
  rw [c_lat (σ := uB σ n f) hB.1, Option.bind_some]
  dsimp only
  rw [if_neg (by decide)]
  unfold fJ1_canEncode_fc78d jJ1_canEncode_fc78d_12
  rw [if_neg b.2.2.2.2.2.2, if_pos (by decide), Option.bind_some]
  dsimp only
  rw [if_neg (by decide), vS_d, uB_1, h1]
  have i1 : inB (nI s.length) (uI (uB σ n f) 40 3 (nI s.length + 1)).2.2.2.2.1 = true := by
    show inB (nI s.length) n = true
    have := n3.le
    rw [kinB (by omega)]; exact decide_eq_true (by omega)
  rw [i1, if_pos rfl, vS_d, kc (by have := n3.le; omega), b.2.1]
  have e2 : nI s.length + 1 = nI (s.length + 1) := kadd _ 1
  refine ⟨_, rfl, ⟨⟨?_, n3, fun k hk => ?_⟩, ?_, ?_, fun k hk => ?_⟩, Sb.tr (Sb.tr Sb.uB Sb.uI) Sb.uB⟩
  · show (uI (uB σ n f) 40 3 (nI s.length + 1)).1 40 1 = 0
    rw [uI_nj (by omega)]; exact hB.1
  · show okR 0 127 (upd f s.length (nI q) k)
    unfold upd
    by_cases z : k = s.length
    · rw [if_pos z]; exact r127 hq
    · rw [if_neg z]; exact n5 k hk
  · show (uI (uB σ n f) 40 3 (nI s.length + 1)).1 40 3 = _
    rw [uI_eq, e2, List.length_append]
    rfl
  · show (s ++ [nI q]).length ≤ n
    rw [List.length_append]; exact n1
  · show (s ++ [nI q])[k]? = some (upd f s.length (nI q) k)
    rw [List.length_append] at hk
    have hk : k < s.length + 1 := hk
    unfold upd
    by_cases z : k = s.length
    · rw [if_pos z, z, List.getElem?_append_right (Nat.le_refl _), Nat.sub_self]; rfl
    · rw [if_neg z, List.getElem?_append_left (by omega), n4 k (by omega)]
      exact h3 k (by omega)
