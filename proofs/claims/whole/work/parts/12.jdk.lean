def fJ6_bitCount_0f7a4 (a0 : Int32) (σ : rS) : Option (Int32 × rS) := vI (a0 - (((a0.toUInt32 >>> ((1 : Int32).toUInt32 &&& Int32.toUInt32 31)).toInt32) &&& 1431655765)) fun x1 => vI ((x1 &&& 858993459) + (((x1.toUInt32 >>> ((2 : Int32).toUInt32 &&& Int32.toUInt32 31)).toInt32) &&& 858993459)) fun x2 => vI ((x2 + ((x2.toUInt32 >>> ((4 : Int32).toUInt32 &&& Int32.toUInt32 31)).toInt32)) &&& 252645135) fun x3 => vI (x3 + ((x3.toUInt32 >>> ((8 : Int32).toUInt32 &&& Int32.toUInt32 31)).toInt32)) fun x4 => vI (x4 + ((x4.toUInt32 >>> ((16 : Int32).toUInt32 &&& Int32.toUInt32 31)).toInt32)) fun x5 => some ((x5 &&& 63), σ)
set_option maxHeartbeats 4000000 in
theorem cmJ6_bitCount_0f7a4 {G : rG} {ad : Nat → Nat} {a0 : Int32} {σ : rS} {h : rH} {o : (Int32 × rS)} (hr : Rep G ad σ h) (hf : fJ6_bitCount_0f7a4 a0 σ = some o) : rMT G mJ6_bitCount_0f7a4 (rm 0 0 0) [.int a0] h (qI G ad o) xN := by
  unfold fJ6_bitCount_0f7a4 at hf
  refine rw_met (by decide +kernel) rfl (Nat.le_of_ble_eq_true rfl) ?_
  show RW G _ _ _ _ 0 0 0 [(0, .int a0)] [] h
  refine rw_iload_n dJ6_bitCount_0f7a4_0 0 rfl rfl ?_
  refine rw_iload_n dJ6_bitCount_0f7a4_1 0 rfl rfl ?_
  refine rw_iconst (v := 1) dJ6_bitCount_0f7a4_2 (by decide) ?_
  refine rw_iushr dJ6_bitCount_0f7a4_3 ?_
  refine rw_ldcw (v := 1431655765) dJ6_bitCount_0f7a4_4 wm1051 ?_
  refine rw_iand dJ6_bitCount_0f7a4_7 ?_
  refine rw_isub dJ6_bitCount_0f7a4_8 ?_
  refine nmI hf (fun x1 hf => ?_)
  refine rw_istore_n (lv2 := [(0, .int x1)]) dJ6_bitCount_0f7a4_9 rfl (by decide) rfl ?_
  refine rw_iload_n dJ6_bitCount_0f7a4_10 0 rfl rfl ?_
  refine rw_ldcw (v := 858993459) dJ6_bitCount_0f7a4_11 wm1052 ?_
  refine rw_iand dJ6_bitCount_0f7a4_14 ?_
  refine rw_iload_n dJ6_bitCount_0f7a4_15 0 rfl rfl ?_
  refine rw_iconst (v := 2) dJ6_bitCount_0f7a4_16 (by decide) ?_
  refine rw_iushr dJ6_bitCount_0f7a4_17 ?_
  refine rw_ldcw (v := 858993459) dJ6_bitCount_0f7a4_18 wm1052 ?_
  refine rw_iand dJ6_bitCount_0f7a4_21 ?_
  refine rw_iadd dJ6_bitCount_0f7a4_22 ?_
  refine nmI hf (fun x2 hf => ?_)
  refine rw_istore_n (lv2 := [(0, .int x2)]) dJ6_bitCount_0f7a4_23 rfl (by decide) rfl ?_
  refine rw_iload_n dJ6_bitCount_0f7a4_24 0 rfl rfl ?_
  refine rw_iload_n dJ6_bitCount_0f7a4_25 0 rfl rfl ?_
  refine rw_iconst (v := 4) dJ6_bitCount_0f7a4_26 (by decide) ?_
  refine rw_iushr dJ6_bitCount_0f7a4_27 ?_
  refine rw_iadd dJ6_bitCount_0f7a4_28 ?_
  refine rw_ldcw (v := 252645135) dJ6_bitCount_0f7a4_29 wm1053 ?_
  refine rw_iand dJ6_bitCount_0f7a4_32 ?_
  refine nmI hf (fun x3 hf => ?_)
  refine rw_istore_n (lv2 := [(0, .int x3)]) dJ6_bitCount_0f7a4_33 rfl (by decide) rfl ?_
  refine rw_iload_n dJ6_bitCount_0f7a4_34 0 rfl rfl ?_
  refine rw_iload_n dJ6_bitCount_0f7a4_35 0 rfl rfl ?_
  refine rw_bipush (v := 8) dJ6_bitCount_0f7a4_36 (by decide) ?_
  refine rw_iushr dJ6_bitCount_0f7a4_38 ?_
  refine rw_iadd dJ6_bitCount_0f7a4_39 ?_
  refine nmI hf (fun x4 hf => ?_)
  refine rw_istore_n (lv2 := [(0, .int x4)]) dJ6_bitCount_0f7a4_40 rfl (by decide) rfl ?_
  refine rw_iload_n dJ6_bitCount_0f7a4_41 0 rfl rfl ?_
  refine rw_iload_n dJ6_bitCount_0f7a4_42 0 rfl rfl ?_
  refine rw_bipush (v := 16) dJ6_bitCount_0f7a4_43 (by decide) ?_
  refine rw_iushr dJ6_bitCount_0f7a4_45 ?_
  refine rw_iadd dJ6_bitCount_0f7a4_46 ?_
  refine nmI hf (fun x5 hf => ?_)
  refine rw_istore_n (lv2 := [(0, .int x5)]) dJ6_bitCount_0f7a4_47 rfl (by decide) rfl ?_
  refine rw_iload_n dJ6_bitCount_0f7a4_48 0 rfl rfl ?_
  refine rw_bipush (v := 63) dJ6_bitCount_0f7a4_49 (by decide) ?_
  refine rw_iand dJ6_bitCount_0f7a4_51 ?_
  replace hf := Option.some.inj hf
  subst hf
  exact rw_ireturn dJ6_bitCount_0f7a4_52 rfl ⟨rfl, hr⟩ (by decide) (by decide)
def lJ7_fill_53178_a16_5  : Nat → Int32 → Int32 → Int32 → rS → Option (Unit × rS)
  | 0, _, _, _, _ => none
  | n + 1, v1, v2, v3, σ => if v3 ≤ v2 then some ((), σ) else if inB v2 256 then vS (uA σ 16 v2.toNatClampNeg v1) fun σ4 => vI (v2 + 1) fun x5 => (lJ7_fill_53178_a16_5 n) v1 x5 v3 σ4 else none
set_option maxHeartbeats 4000000 in
theorem t_lJ7_fill_53178_a16_5 {G : rG} {ad : Nat → Nat} {o : (Unit × rS)}   : ∀ (n : Nat) (v1 : Int32) (v2 : Int32) (v3 : Int32) (σ : rS) (h : rH), Rep G ad σ h → lJ7_fill_53178_a16_5  n v1 v2 v3 σ = some o → RW G mJ7_fill_53178 (rm 0 0 0) (qV G ad o) xN 0 0 5 [(0, .ref (ad 16)), (1, .int v1), (2, .int v2), (3, .int v3)] [] h := by
  intro n
  induction n with
  | zero =>
    intro v1 v2 v3 σ h hr hf
    rw [lJ7_fill_53178_a16_5] at hf
    cases hf
  | succ n ih =>
    intro v1 v2 v3 σ h hr hf
    rw [lJ7_fill_53178_a16_5] at hf
    refine rw_iload_n dJ7_fill_53178_5 2 rfl rfl ?_
    refine rw_iload_n dJ7_fill_53178_6 3 rfl rfl ?_
    refine rw_icmp_ge (tgt := 20) dJ7_fill_53178_7 (by decide) (fun c2 => ?_) (fun c2 => ?_)
    · rw [if_pos c2] at hf
      replace hf := Option.some.inj hf
      subst hf
      exact rw_return dJ7_fill_53178_20 rfl ⟨rfl, hr⟩ (by decide) (by decide)
    · rw [if_neg c2] at hf
      refine rw_aload_n dJ7_fill_53178_10 0 rfl rfl ?_
      refine rw_iload_n dJ7_fill_53178_11 2 rfl rfl ?_
      refine rw_iload_n dJ7_fill_53178_12 1 rfl rfl ?_
      obtain ⟨hi3, hf⟩ := grd hf
      refine ss_16 hr dJ7_fill_53178_13 (inB_in hi3) (fun h hr => ?_)
      refine nmS hf hr (fun σ4 hr hf => ?_)
      refine rw_iinc (v := v2 + 1) (lv2 := [(2, .int (v2 + 1)), (0, .ref (ad 16)), (1, .int v1), (3, .int v3)]) dJ7_fill_53178_14 2 rfl rfl (by decide) rfl ?_
      refine nmL hf (fun x5 hf => ?_)
      refine rw_goto (tgt := 5) dJ7_fill_53178_17 (by decide) ?_
      refine rw_sub [1, 2, 0, 3] rfl ?_
      exact ih v1 x5 v3 σ4 _ hr hf
def fJ7_fill_53178_a16 (a1 : Int32) (σ : rS) : Option (Unit × rS) := vI (Int32.ofNat 256) fun x1 => lJ7_fill_53178_a16_5 1000 a1 0 x1 σ
set_option maxHeartbeats 4000000 in
theorem cmJ7_fill_53178_a16 {G : rG} {ad : Nat → Nat} {a1 : Int32} {σ : rS} {h : rH} {o : (Unit × rS)} (hr : Rep G ad σ h) (hf : fJ7_fill_53178_a16 a1 σ = some o) : rMT G mJ7_fill_53178 (rm 0 0 0) [.ref (ad 16), .int a1] h (qV G ad o) xN := by
  unfold fJ7_fill_53178_a16 at hf
  refine rw_met (by decide +kernel) rfl (Nat.le_of_ble_eq_true rfl) ?_
  show RW G _ _ _ _ 0 0 0 [(0, .ref (ad 16)), (1, .int a1)] [] h
  refine rw_iconst (v := 0) dJ7_fill_53178_0 (by decide) ?_
  refine rw_istore_n (lv2 := [(2, .int 0), (0, .ref (ad 16)), (1, .int a1)]) dJ7_fill_53178_1 rfl (by decide) rfl ?_
  refine rw_aload_n dJ7_fill_53178_2 1 rfl rfl ?_
  refine hr.elim fun q hr => rw_alen (ti := 0) dJ7_fill_53178_3 (hr.1 16 (by decide)) rfl ?_
  replace hr : Rep G ad _ h := ⟨_, hr⟩
  refine nmI hf (fun x1 hf => ?_)
  refine rw_istore_n (lv2 := [(3, .int x1), (2, .int 0), (0, .ref (ad 16)), (1, .int a1)]) dJ7_fill_53178_4 rfl (by decide) rfl ?_
  refine rw_sub [2, 3, 1, 0] rfl ?_
  exact t_lJ7_fill_53178_a16_5 (ad := ad) (G := G)  1000 a1 0 x1 σ _ hr hf
def lJ7_fill_53178_a26_5  : Nat → Int32 → Int32 → Int32 → rS → Option (Unit × rS)
  | 0, _, _, _, _ => none
  | n + 1, v1, v2, v3, σ => if v3 ≤ v2 then some ((), σ) else if inB v2 192 then vS (uA σ 26 v2.toNatClampNeg v1) fun σ4 => vI (v2 + 1) fun x5 => (lJ7_fill_53178_a26_5 n) v1 x5 v3 σ4 else none
set_option maxHeartbeats 4000000 in
theorem t_lJ7_fill_53178_a26_5 {G : rG} {ad : Nat → Nat} {o : (Unit × rS)}   : ∀ (n : Nat) (v1 : Int32) (v2 : Int32) (v3 : Int32) (σ : rS) (h : rH), Rep G ad σ h → lJ7_fill_53178_a26_5  n v1 v2 v3 σ = some o → RW G mJ7_fill_53178 (rm 0 0 0) (qV G ad o) xN 0 0 5 [(0, .ref (ad 26)), (1, .int v1), (2, .int v2), (3, .int v3)] [] h := by
  intro n
  induction n with
  | zero =>
    intro v1 v2 v3 σ h hr hf
    rw [lJ7_fill_53178_a26_5] at hf
    cases hf
  | succ n ih =>
    intro v1 v2 v3 σ h hr hf
    rw [lJ7_fill_53178_a26_5] at hf
    refine rw_iload_n dJ7_fill_53178_5 2 rfl rfl ?_
    refine rw_iload_n dJ7_fill_53178_6 3 rfl rfl ?_
    refine rw_icmp_ge (tgt := 20) dJ7_fill_53178_7 (by decide) (fun c2 => ?_) (fun c2 => ?_)
    · rw [if_pos c2] at hf
      replace hf := Option.some.inj hf
      subst hf
      exact rw_return dJ7_fill_53178_20 rfl ⟨rfl, hr⟩ (by decide) (by decide)
    · rw [if_neg c2] at hf
      refine rw_aload_n dJ7_fill_53178_10 0 rfl rfl ?_
      refine rw_iload_n dJ7_fill_53178_11 2 rfl rfl ?_
      refine rw_iload_n dJ7_fill_53178_12 1 rfl rfl ?_
      obtain ⟨hi3, hf⟩ := grd hf
      refine ss_26 hr dJ7_fill_53178_13 (inB_in hi3) (fun h hr => ?_)
      refine nmS hf hr (fun σ4 hr hf => ?_)
      refine rw_iinc (v := v2 + 1) (lv2 := [(2, .int (v2 + 1)), (0, .ref (ad 26)), (1, .int v1), (3, .int v3)]) dJ7_fill_53178_14 2 rfl rfl (by decide) rfl ?_
      refine nmL hf (fun x5 hf => ?_)
      refine rw_goto (tgt := 5) dJ7_fill_53178_17 (by decide) ?_
      refine rw_sub [1, 2, 0, 3] rfl ?_
      exact ih v1 x5 v3 σ4 _ hr hf
def fJ7_fill_53178_a26 (a1 : Int32) (σ : rS) : Option (Unit × rS) := vI (Int32.ofNat 192) fun x1 => lJ7_fill_53178_a26_5 1000 a1 0 x1 σ
set_option maxHeartbeats 4000000 in
theorem cmJ7_fill_53178_a26 {G : rG} {ad : Nat → Nat} {a1 : Int32} {σ : rS} {h : rH} {o : (Unit × rS)} (hr : Rep G ad σ h) (hf : fJ7_fill_53178_a26 a1 σ = some o) : rMT G mJ7_fill_53178 (rm 0 0 0) [.ref (ad 26), .int a1] h (qV G ad o) xN := by
  unfold fJ7_fill_53178_a26 at hf
  refine rw_met (by decide +kernel) rfl (Nat.le_of_ble_eq_true rfl) ?_
  show RW G _ _ _ _ 0 0 0 [(0, .ref (ad 26)), (1, .int a1)] [] h
  refine rw_iconst (v := 0) dJ7_fill_53178_0 (by decide) ?_
  refine rw_istore_n (lv2 := [(2, .int 0), (0, .ref (ad 26)), (1, .int a1)]) dJ7_fill_53178_1 rfl (by decide) rfl ?_
  refine rw_aload_n dJ7_fill_53178_2 1 rfl rfl ?_
  refine hr.elim fun q hr => rw_alen (ti := 0) dJ7_fill_53178_3 (hr.1 26 (by decide)) rfl ?_
  replace hr : Rep G ad _ h := ⟨_, hr⟩
  refine nmI hf (fun x1 hf => ?_)
  refine rw_istore_n (lv2 := [(3, .int x1), (2, .int 0), (0, .ref (ad 26)), (1, .int a1)]) dJ7_fill_53178_4 rfl (by decide) rfl ?_
  refine rw_sub [2, 3, 1, 0] rfl ?_
  exact t_lJ7_fill_53178_a26_5 (ad := ad) (G := G)  1000 a1 0 x1 σ _ hr hf
