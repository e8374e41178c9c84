def fX11_slotOf (a0 : Int32) (a1 : Int32) (σ : rS) : Option (Int32 × rS) := some (((a0 * 12) + a1), σ)
set_option maxHeartbeats 4000000 in
theorem cmX11_slotOf {G : rG} {ad : Nat → Nat} {a0 : Int32} {a1 : Int32} {σ : rS} {h : rH} {o : (Int32 × rS)} (hr : Rep G ad σ h) (hf : fX11_slotOf a0 a1 σ = some o) : rMT G mX11_slotOf (rm 0 0 0) [.int a0, .int a1] h (qI G ad o) xN := by
  unfold fX11_slotOf at hf
  refine rw_met (by decide +kernel) rfl (Nat.le_of_ble_eq_true rfl) ?_
  show RW G _ _ _ _ 0 0 0 [(0, .int a0), (1, .int a1)] [] h
  refine rw_iload_n dX11_slotOf_0 0 rfl rfl ?_
  refine rw_bipush (v := 12) dX11_slotOf_1 (by decide) ?_
  refine rw_imul dX11_slotOf_3 ?_
  refine rw_iload_n dX11_slotOf_4 1 rfl rfl ?_
  refine rw_iadd dX11_slotOf_5 ?_
  replace hf := Option.some.inj hf
  subst hf
  exact rw_ireturn dX11_slotOf_6 rfl ⟨rfl, hr⟩ (by decide) (by decide)
def lX0_measure_8  : Nat → Nat → Int32 → Int32 → Int32 → rS → Option (Unit × rS)
  | 0, _, _, _, _, _ => none
  | n + 1, v1, v2, v3, v4, σ => if isBo v1 then (if (σ.1 v1 4) ≤ v4 then some ((), σ) else (fX11_slotOf v2 v4 σ).bind fun q5 => if inB q5.1 192 then vS (uA q5.2 31 q5.1.toNatClampNeg v3) fun σ7 => (fX11_slotOf v2 v4 σ7).bind fun q8 => if isBo v1 then if isTh (v1 + 3) then if inB v4 12 then if inB q8.1 192 then vS (uA q8.2 32 q8.1.toNatClampNeg (q8.2.2.2.1 (v1 + 3) v4.toNatClampNeg)) fun σ13 => if isBo v1 then if isTh (v1 + 3) then if inB v4 12 then vI (v3 - (σ13.2.2.1 (v1 + 3) v4.toNatClampNeg)) fun x17 => vI (v4 + 1) fun x18 => (lX0_measure_8 n) v1 v2 x17 x18 σ13 else none else none else none else none else none else none else none else none) else none
set_option maxHeartbeats 4000000 in
theorem t_lX0_measure_8 {G : rG} {ad : Nat → Nat} {o : (Unit × rS)}   : ∀ (n : Nat) (v1 : Nat) (v2 : Int32) (v3 : Int32) (v4 : Int32) (σ : rS) (h : rH), Rep G ad σ h → lX0_measure_8  n v1 v2 v3 v4 σ = some o → RW G mX0_measure (rm 1 0 0) (qV G ad o) xN 0 0 8 [(0, .ref (ad 25)), (1, .ref (ad v1)), (2, .int v2), (3, .int v3), (4, .int v4)] [] h := by
  intro n
  induction n with
  | zero =>
    intro v1 v2 v3 v4 σ h hr hf
    rw [lX0_measure_8] at hf
    cases hf
  | succ n ih =>
    intro v1 v2 v3 v4 σ h hr hf
    rw [lX0_measure_8] at hf
    refine rw_iload dX0_measure_8 4 rfl ?_
    refine rw_aload_n dX0_measure_10 1 rfl rfl ?_
    obtain ⟨hp3, hf⟩ := grd hf
    refine sg_Bo_4 hr dX0_measure_11 fl148 hp3 ?_
    refine rw_icmp_ge (tgt := 63) dX0_measure_14 (by decide) (fun c4 => ?_) (fun c4 => ?_)
    · rw [if_pos c4] at hf
      replace hf := Option.some.inj hf
      subst hf
      exact rw_return dX0_measure_63 rfl ⟨rfl, hr⟩ (by decide) (by decide)
    · rw [if_neg c4] at hf
      refine rw_aload_n dX0_measure_17 0 rfl rfl ?_
      refine sg_25_6 hr dX0_measure_18 fl326 ?_
      refine rw_iload_n dX0_measure_21 2 rfl rfl ?_
      refine rw_iload dX0_measure_22 4 rfl ?_
      obtain ⟨q5, hq5, hf⟩ := bnd hf
      refine kSN_I (ad := ad) (As := [.int v2, .int v4]) (st := [.ref (ad 31)]) dX0_measure_24 calX11_slotOf wm661 wm662 rfl rfl (Nat.le_of_ble_eq_true rfl) ⟨⟨by decide, by decide⟩, by decide, by decide⟩ (cmX11_slotOf hr hq5) (fun h hr => ?_)
      refine rw_iload_n dX0_measure_27 3 rfl rfl ?_
      obtain ⟨hi6, hf⟩ := grd hf
      refine ss_31 hr dX0_measure_28 (inB_in hi6) (fun h hr => ?_)
      refine nmS hf hr (fun σ7 hr hf => ?_)
      refine rw_aload_n dX0_measure_29 0 rfl rfl ?_
      refine sg_25_7 hr dX0_measure_30 fl327 ?_
      refine rw_iload_n dX0_measure_33 2 rfl rfl ?_
      refine rw_iload dX0_measure_34 4 rfl ?_
      obtain ⟨q8, hq8, hf⟩ := bnd hf
      refine kSN_I (ad := ad) (As := [.int v2, .int v4]) (st := [.ref (ad 32)]) dX0_measure_36 calX11_slotOf wm661 wm662 rfl rfl (Nat.le_of_ble_eq_true rfl) ⟨⟨by decide, by decide⟩, by decide, by decide⟩ (cmX11_slotOf hr hq8) (fun h hr => ?_)
      refine rw_aload_n dX0_measure_39 1 rfl rfl ?_
      obtain ⟨hp9, hf⟩ := grd hf
      refine sg_Bo_2 hr dX0_measure_40 fl143 hp9 ?_
      refine rw_iload dX0_measure_43 4 rfl ?_
      obtain ⟨hp11, hf⟩ := grd hf
      obtain ⟨hi10, hf⟩ := grd hf
      refine sl_Th hr dX0_measure_45 hp11 (inB_in hi10) ?_
      obtain ⟨hi12, hf⟩ := grd hf
      refine ss_32 hr dX0_measure_46 (inB_in hi12) (fun h hr => ?_)
      refine nmS hf hr (fun σ13 hr hf => ?_)
      refine rw_iload_n dX0_measure_47 3 rfl rfl ?_
      refine rw_aload_n dX0_measure_48 1 rfl rfl ?_
      obtain ⟨hp14, hf⟩ := grd hf
      refine sg_Bo_2 hr dX0_measure_49 fl143 hp14 ?_
      refine rw_iload dX0_measure_52 4 rfl ?_
      obtain ⟨hp16, hf⟩ := grd hf
      obtain ⟨hi15, hf⟩ := grd hf
      refine sl_Th hr dX0_measure_54 hp16 (inB_in hi15) ?_
      refine rw_isub dX0_measure_55 ?_
      refine nmI hf (fun x17 hf => ?_)
      refine rw_istore_n (lv2 := [(3, .int x17), (0, .ref (ad 25)), (1, .ref (ad v1)), (2, .int v2), (4, .int v4)]) dX0_measure_56 rfl (by decide) rfl ?_
      refine rw_iinc (v := v4 + 1) (lv2 := [(4, .int (v4 + 1)), (3, .int x17), (0, .ref (ad 25)), (1, .ref (ad v1)), (2, .int v2)]) dX0_measure_57 4 rfl rfl (by decide) rfl ?_
      refine nmL hf (fun x18 hf => ?_)
      refine rw_goto (tgt := 8) dX0_measure_60 (by decide) ?_
      refine rw_sub [2, 3, 4, 1, 0] rfl ?_
      exact ih v1 v2 x17 x18 σ13 _ hr hf
def fX0_measure (n1 : Nat) (a1 : Int32) (σ : rS) : Option (Unit × rS) := if isBo n1 then vI (σ.1 n1 3) fun x2 => lX0_measure_8 1000 n1 a1 x2 0 σ else none
set_option maxHeartbeats 4000000 in
theorem cmX0_measure {G : rG} {ad : Nat → Nat} {n1 : Nat} {a1 : Int32} {σ : rS} {h : rH} {o : (Unit × rS)} (hr : Rep G ad σ h) (hf : fX0_measure n1 a1 σ = some o) : rMT G mX0_measure (rm 1 0 0) [.ref (ad 25), .ref (ad n1), .int a1] h (qV G ad o) xN := by
  unfold fX0_measure at hf
  refine rw_met (by decide +kernel) rfl (Nat.le_of_ble_eq_true rfl) ?_
  show RW G _ _ _ _ 0 0 0 [(0, .ref (ad 25)), (1, .ref (ad n1)), (2, .int a1)] [] h
  refine rw_aload_n dX0_measure_0 1 rfl rfl ?_
  obtain ⟨hp1, hf⟩ := grd hf
  refine sg_Bo_3 hr dX0_measure_1 fl146 hp1 ?_
  refine nmI hf (fun x2 hf => ?_)
  refine rw_istore_n (lv2 := [(3, .int x2), (0, .ref (ad 25)), (1, .ref (ad n1)), (2, .int a1)]) dX0_measure_4 rfl (by decide) rfl ?_
  refine rw_iconst (v := 0) dX0_measure_5 (by decide) ?_
  refine rw_istore (lv2 := [(4, .int 0), (3, .int x2), (0, .ref (ad 25)), (1, .ref (ad n1)), (2, .int a1)]) dX0_measure_6 (by decide) rfl ?_
  refine rw_sub [2, 3, 4, 1, 0] rfl ?_
  exact t_lX0_measure_8 (ad := ad) (G := G)  1000 n1 a1 x2 0 σ _ hr hf
def jX0_reach_71   (σ : rS) : Option (Unit × rS) := some ((), σ)
set_option maxHeartbeats 4000000 in
theorem t_jX0_reach_71 {G : rG} {ad : Nat → Nat} {o : (Unit × rS)}    (σ : rS) (h : rH) (hr : Rep G ad σ h) (hf : jX0_reach_71   σ = some o) : RW G mX0_reach (rm 0 0 0) (qV G ad o) xN 0 0 71 [] [] h := by
  unfold jX0_reach_71 at hf
  replace hf := Option.some.inj hf
  subst hf
  exact rw_return dX0_reach_71 rfl ⟨rfl, hr⟩ (by decide) (by decide)
def fX0_reach (a0 : Int32) (σ : rS) : Option (Unit × rS) := if 192 ≤ (σ.1 25 9) then jX0_reach_71 σ else if inB a0 192 then vS (uA σ 26 a0.toNatClampNeg (σ.1 25 5)) fun σ3 => if inB (σ3.1 25 5) 192 then if inB (σ3.1 25 5) 192 then vS (uA σ3 28 (σ3.1 25 5).toNatClampNeg ((σ3.2.2.1 28 (σ3.1 25 5).toNatClampNeg) + 1)) fun σ6 => if inB (σ6.1 25 5) 192 then if inB (σ6.1 25 5) 192 then vS (uA σ6 30 (σ6.1 25 5).toNatClampNeg ((σ6.2.2.1 30 (σ6.1 25 5).toNatClampNeg) ||| (1 <<< ((a0 / 12) &&& 31)))) fun σ10 => if inB (σ10.1 25 9) 192 then vS (uA σ10 33 (σ10.1 25 9).toNatClampNeg a0) fun σ12 => vS (uI σ12 25 9 ((σ12.1 25 9) + 1)) fun σ13 => jX0_reach_71 σ13 else none else none else none else none else none else none
set_option maxHeartbeats 4000000 in
theorem cmX0_reach {G : rG} {ad : Nat → Nat} {a0 : Int32} {σ : rS} {h : rH} {o : (Unit × rS)} (hr : Rep G ad σ h) (hf : fX0_reach a0 σ = some o) : rMT G mX0_reach (rm 0 0 0) [.ref (ad 25), .int a0] h (qV G ad o) xN := by
  unfold fX0_reach at hf
  refine rw_met (by decide +kernel) rfl (Nat.le_of_ble_eq_true rfl) ?_
  show RW G _ _ _ _ 0 0 0 [(0, .ref (ad 25)), (1, .int a0)] [] h
  refine rw_aload_n dX0_reach_0 0 rfl rfl ?_
  refine sg_25_9 hr dX0_reach_1 fl329 ?_
  refine rw_sipush (v := 192) dX0_reach_4 (by decide) ?_
  refine rw_icmp_ge (tgt := 71) dX0_reach_7 (by decide) (fun c1 => ?_) (fun c1 => ?_)
  · rw [if_pos c1] at hf
    refine rw_sub [] rfl ?_
    exact t_jX0_reach_71 (ad := ad) (G := G)  σ _ hr hf
  · rw [if_neg c1] at hf
    refine rw_aload_n dX0_reach_10 0 rfl rfl ?_
    refine sg_25_0 hr dX0_reach_11 fl314 ?_
    refine rw_iload_n dX0_reach_14 1 rfl rfl ?_
    refine rw_aload_n dX0_reach_15 0 rfl rfl ?_
    refine sg_25_5 hr dX0_reach_16 fl324 ?_
    obtain ⟨hi2, hf⟩ := grd hf
    refine ss_26 hr dX0_reach_19 (inB_in hi2) (fun h hr => ?_)
    refine nmS hf hr (fun σ3 hr hf => ?_)
    refine rw_aload_n dX0_reach_20 0 rfl rfl ?_
    refine sg_25_2 hr dX0_reach_21 fl318 ?_
    refine rw_aload_n dX0_reach_24 0 rfl rfl ?_
    refine sg_25_5 hr dX0_reach_25 fl324 ?_
    refine rw_dup2 dX0_reach_28 rfl rfl ?_
    obtain ⟨hi4, hf⟩ := grd hf
    refine sl_28 hr dX0_reach_29 (inB_in hi4) ?_
    refine rw_iconst (v := 1) dX0_reach_30 (by decide) ?_
    refine rw_iadd dX0_reach_31 ?_
    obtain ⟨hi5, hf⟩ := grd hf
    refine ss_28 hr dX0_reach_32 (inB_in hi5) (fun h hr => ?_)
    refine nmS hf hr (fun σ6 hr hf => ?_)
    refine rw_aload_n dX0_reach_33 0 rfl rfl ?_
    refine sg_25_4 hr dX0_reach_34 fl322 ?_
    refine rw_aload_n dX0_reach_37 0 rfl rfl ?_
    refine sg_25_5 hr dX0_reach_38 fl324 ?_
    refine rw_dup2 dX0_reach_41 rfl rfl ?_
    obtain ⟨hi7, hf⟩ := grd hf
    refine sl_30 hr dX0_reach_42 (inB_in hi7) ?_
    refine rw_iconst (v := 1) dX0_reach_43 (by decide) ?_
    refine rw_iload_n dX0_reach_44 1 rfl rfl ?_
    refine rw_bipush (v := 12) dX0_reach_45 (by decide) ?_
    refine rw_idiv dX0_reach_47 (by decide) ?_
    refine rw_ishl dX0_reach_48 ?_
    refine rw_ior dX0_reach_49 ?_
    obtain ⟨hi9, hf⟩ := grd hf
    refine ss_30 hr dX0_reach_50 (inB_in hi9) (fun h hr => ?_)
    refine nmS hf hr (fun σ10 hr hf => ?_)
    refine rw_aload_n dX0_reach_51 0 rfl rfl ?_
    refine sg_25_8 hr dX0_reach_52 fl328 ?_
    refine rw_aload_n dX0_reach_55 0 rfl rfl ?_
    refine sg_25_9 hr dX0_reach_56 fl329 ?_
    refine rw_iload_n dX0_reach_59 1 rfl rfl ?_
    obtain ⟨hi11, hf⟩ := grd hf
    refine ss_33 hr dX0_reach_60 (inB_in hi11) (fun h hr => ?_)
    refine nmS hf hr (fun σ12 hr hf => ?_)
    refine rw_aload_n dX0_reach_61 0 rfl rfl ?_
    refine rw_dup dX0_reach_62 rfl ?_
    refine sg_25_9 hr dX0_reach_63 fl329 ?_
    refine rw_iconst (v := 1) dX0_reach_66 (by decide) ?_
    refine rw_iadd dX0_reach_67 ?_
    refine sp_25_9 hr dX0_reach_68 fl329 (fun h hr => ?_)
    refine nmS hf hr (fun σ13 hr hf => ?_)
    refine rw_sub [] rfl ?_
    exact t_jX0_reach_71 (ad := ad) (G := G)  σ13 _ hr hf
def fX0_begin (a0 : Int32) (a1 : Int32) (σ : rS) : Option (Unit × rS) := if inB (σ.1 25 5) 192 then vS (uA σ 27 (σ.1 25 5).toNatClampNeg a1) fun σ2 => if inB (σ2.1 25 5) 192 then vS (uA σ2 29 (σ2.1 25 5).toNatClampNeg a0) fun σ4 => if inB (σ4.1 25 5) 192 then vS (uA σ4 28 (σ4.1 25 5).toNatClampNeg 0) fun σ6 => if inB (σ6.1 25 5) 192 then vS (uA σ6 30 (σ6.1 25 5).toNatClampNeg 0) fun σ8 => vS (uI σ8 25 9 0) fun σ9 => (fX0_reach a0 σ9).bind fun q10 => some ((), q10.2) else none else none else none else none
set_option maxHeartbeats 4000000 in
theorem cmX0_begin {G : rG} {ad : Nat → Nat} {a0 : Int32} {a1 : Int32} {σ : rS} {h : rH} {o : (Unit × rS)} (hr : Rep G ad σ h) (hf : fX0_begin a0 a1 σ = some o) : rMT G mX0_begin (rm 1 0 0) [.ref (ad 25), .int a0, .int a1] h (qV G ad o) xN := by
  unfold fX0_begin at hf
  refine rw_met (by decide +kernel) rfl (Nat.le_of_ble_eq_true rfl) ?_
  show RW G _ _ _ _ 0 0 0 [(0, .ref (ad 25)), (1, .int a0), (2, .int a1)] [] h
  refine rw_aload_n dX0_begin_0 0 rfl rfl ?_
  refine sg_25_1 hr dX0_begin_1 fl316 ?_
  refine rw_aload_n dX0_begin_4 0 rfl rfl ?_
  refine sg_25_5 hr dX0_begin_5 fl324 ?_
  refine rw_iload_n dX0_begin_8 2 rfl rfl ?_
  obtain ⟨hi1, hf⟩ := grd hf
  refine ss_27 hr dX0_begin_9 (inB_in hi1) (fun h hr => ?_)
  refine nmS hf hr (fun σ2 hr hf => ?_)
  refine rw_aload_n dX0_begin_10 0 rfl rfl ?_
  refine sg_25_3 hr dX0_begin_11 fl320 ?_
  refine rw_aload_n dX0_begin_14 0 rfl rfl ?_
  refine sg_25_5 hr dX0_begin_15 fl324 ?_
  refine rw_iload_n dX0_begin_18 1 rfl rfl ?_
  obtain ⟨hi3, hf⟩ := grd hf
  refine ss_29 hr dX0_begin_19 (inB_in hi3) (fun h hr => ?_)
  refine nmS hf hr (fun σ4 hr hf => ?_)
  refine rw_aload_n dX0_begin_20 0 rfl rfl ?_
  refine sg_25_2 hr dX0_begin_21 fl318 ?_
  refine rw_aload_n dX0_begin_24 0 rfl rfl ?_
  refine sg_25_5 hr dX0_begin_25 fl324 ?_
  refine rw_iconst (v := 0) dX0_begin_28 (by decide) ?_
  obtain ⟨hi5, hf⟩ := grd hf
  refine ss_28 hr dX0_begin_29 (inB_in hi5) (fun h hr => ?_)
  refine nmS hf hr (fun σ6 hr hf => ?_)
  refine rw_aload_n dX0_begin_30 0 rfl rfl ?_
  refine sg_25_4 hr dX0_begin_31 fl322 ?_
  refine rw_aload_n dX0_begin_34 0 rfl rfl ?_
  refine sg_25_5 hr dX0_begin_35 fl324 ?_
  refine rw_iconst (v := 0) dX0_begin_38 (by decide) ?_
  obtain ⟨hi7, hf⟩ := grd hf
  refine ss_30 hr dX0_begin_39 (inB_in hi7) (fun h hr => ?_)
  refine nmS hf hr (fun σ8 hr hf => ?_)
  refine rw_aload_n dX0_begin_40 0 rfl rfl ?_
  refine rw_iconst (v := 0) dX0_begin_41 (by decide) ?_
  refine sp_25_9 hr dX0_begin_42 fl329 (fun h hr => ?_)
  refine nmS hf hr (fun σ9 hr hf => ?_)
  refine rw_aload_n dX0_begin_45 0 rfl rfl ?_
  refine rw_iload_n dX0_begin_46 1 rfl rfl ?_
  obtain ⟨q10, hq10, hf⟩ := bnd hf
  refine kV_V (ad := ad) (As := [.int a0]) (st := []) dX0_begin_47 calX0_reach wm668 wm670 wm14 rfl rfl (rc_25 hr) (ci := 1) (by decide) rfl rfl (Nat.le_of_ble_eq_true rfl) ⟨⟨by decide, by decide⟩, by decide, by decide⟩ (cmX0_reach hr hq10) (fun h hr => ?_)
  replace hf := Option.some.inj hf
  subst hf
  exact rw_return dX0_begin_50 rfl ⟨rfl, hr⟩ (by decide) (by decide)
def fX6_joining (a0 : Int32) (a1 : Int32) (σ : rS) : Option (Int32 × rS) := if inB ((a0 * 16) + a1) 256 then some ((σ.2.2.1 16 ((a0 * 16) + a1).toNatClampNeg), σ) else none
set_option maxHeartbeats 4000000 in
theorem cmX6_joining {G : rG} {ad : Nat → Nat} {a0 : Int32} {a1 : Int32} {σ : rS} {h : rH} {o : (Int32 × rS)} (hr : Rep G ad σ h) (hf : fX6_joining a0 a1 σ = some o) : rMT G mX6_joining (rm 0 0 0) [.ref (ad 10), .int a0, .int a1] h (qI G ad o) xN := by
  unfold fX6_joining at hf
  refine rw_met (by decide +kernel) rfl (Nat.le_of_ble_eq_true rfl) ?_
  show RW G _ _ _ _ 0 0 0 [(0, .ref (ad 10)), (1, .int a0), (2, .int a1)] [] h
  refine rw_aload_n dX6_joining_0 0 rfl rfl ?_
  refine sg_10_8 hr dX6_joining_1 fl249 ?_
  refine rw_iload_n dX6_joining_4 1 rfl rfl ?_
  refine rw_bipush (v := 16) dX6_joining_5 (by decide) ?_
  refine rw_imul dX6_joining_7 ?_
  refine rw_iload_n dX6_joining_8 2 rfl rfl ?_
  refine rw_iadd dX6_joining_9 ?_
  obtain ⟨hi1, hf⟩ := grd hf
  refine sl_16 hr dX6_joining_10 (inB_in hi1) ?_
  replace hf := Option.some.inj hf
  subst hf
  exact rw_ireturn dX6_joining_11 rfl ⟨rfl, hr⟩ (by decide) (by decide)
def jX5_partner_50  (s0 : Int32) (σ : rS) : Option (Int32 × rS) := some (s0, σ)
set_option maxHeartbeats 4000000 in
theorem t_jX5_partner_50 {G : rG} {ad : Nat → Nat} {o : (Int32 × rS)}   (s0 : Int32) (σ : rS) (h : rH) (hr : Rep G ad σ h) (hf : jX5_partner_50  s0 σ = some o) : RW G mX5_partner (rm 1 0 0) (qI G ad o) xN 0 0 50 [] [.int s0] h := by
  unfold jX5_partner_50 at hf
  replace hf := Option.some.inj hf
  subst hf
  exact rw_ireturn dX5_partner_50 rfl ⟨rfl, hr⟩ (by decide) (by decide)
def fX5_partner (a1 : Int32) (a2 : Int32) (a3 : Int32) (σ : rS) : Option (Int32 × rS) := (fX6_joining a1 a2 σ).bind fun q1 => vI q1.1 fun x2 => if x2 = ((-1)) then some (((-1)), q1.2) else if a2 ≤ a1 then if inB ((x2 * 12) + a3) 504 then jX5_partner_50 (q1.2.2.2.1 23 ((x2 * 12) + a3).toNatClampNeg) q1.2 else none else if inB ((x2 * 12) + a3) 504 then jX5_partner_50 (q1.2.2.2.1 22 ((x2 * 12) + a3).toNatClampNeg) q1.2 else none
set_option maxHeartbeats 4000000 in
theorem cmX5_partner {G : rG} {ad : Nat → Nat} {a1 : Int32} {a2 : Int32} {a3 : Int32} {σ : rS} {h : rH} {o : (Int32 × rS)} (hr : Rep G ad σ h) (hf : fX5_partner a1 a2 a3 σ = some o) : rMT G mX5_partner (rm 1 0 0) [.ref (ad 18), .ref (ad 10), .int a1, .int a2, .int a3] h (qI G ad o) xN := by
  unfold fX5_partner at hf
  refine rw_met (by decide +kernel) rfl (Nat.le_of_ble_eq_true rfl) ?_
  show RW G _ _ _ _ 0 0 0 [(0, .ref (ad 18)), (1, .ref (ad 10)), (2, .int a1), (3, .int a2), (4, .int a3)] [] h
  refine rw_aload_n dX5_partner_0 1 rfl rfl ?_
  refine rw_iload_n dX5_partner_1 2 rfl rfl ?_
  refine rw_iload_n dX5_partner_2 3 rfl rfl ?_
  obtain ⟨q1, hq1, hf⟩ := bnd hf
  refine kV_I (ad := ad) (As := [.int a1, .int a2]) (st := []) dX5_partner_3 calX6_joining wm680 wm607 wm608 rfl rfl (rc_10 hr) (ci := 6) (by decide) rfl rfl (Nat.le_of_ble_eq_true rfl) ⟨⟨by decide, by decide⟩, by decide, by decide⟩ (cmX6_joining hr hq1) (fun h hr => ?_)
  refine nmI hf (fun x2 hf => ?_)
  refine rw_istore (lv2 := [(5, .int x2), (0, .ref (ad 18)), (1, .ref (ad 10)), (2, .int a1), (3, .int a2), (4, .int a3)]) dX5_partner_6 (by decide) rfl ?_
  refine rw_iload dX5_partner_8 0 rfl ?_
  refine rw_iconst (v := (-1)) dX5_partner_10 (by decide) ?_
  refine rw_icmp_ne (tgt := 16) dX5_partner_11 (by decide) (fun c3 => ?_) (fun c3 => ?_)
  · rw [if_neg c3] at hf
    refine rw_iload_n dX5_partner_16 3 rfl rfl ?_
    refine rw_iload_n dX5_partner_17 4 rfl rfl ?_
    refine rw_icmp_ge (tgt := 37) dX5_partner_18 (by decide) (fun c4 => ?_) (fun c4 => ?_)
    · rw [if_pos c4] at hf
      refine rw_aload_n dX5_partner_37 1 rfl rfl ?_
      refine sg_18_5 hr dX5_partner_38 fl291 ?_
      refine rw_iload dX5_partner_41 0 rfl ?_
      refine rw_bipush (v := 12) dX5_partner_43 (by decide) ?_
      refine rw_imul dX5_partner_45 ?_
      refine rw_iload dX5_partner_46 5 rfl ?_
      refine rw_iadd dX5_partner_48 ?_
      obtain ⟨hi5, hf⟩ := grd hf
      refine sl_23 hr dX5_partner_49 (inB_in hi5) ?_
      refine rw_sub [] rfl ?_
      exact t_jX5_partner_50 (ad := ad) (G := G)  (q1.2.2.2.1 23 ((x2 * 12) + a3).toNatClampNeg) q1.2 _ hr hf
    · rw [if_neg c4] at hf
      refine rw_aload_n dX5_partner_21 1 rfl rfl ?_
      refine sg_18_4 hr dX5_partner_22 fl290 ?_
      refine rw_iload dX5_partner_25 0 rfl ?_
      refine rw_bipush (v := 12) dX5_partner_27 (by decide) ?_
      refine rw_imul dX5_partner_29 ?_
      refine rw_iload dX5_partner_30 5 rfl ?_
      refine rw_iadd dX5_partner_32 ?_
      obtain ⟨hi6, hf⟩ := grd hf
      refine sl_22 hr dX5_partner_33 (inB_in hi6) ?_
      refine rw_goto (tgt := 50) dX5_partner_34 (by decide) ?_
      refine rw_sub [] rfl ?_
      exact t_jX5_partner_50 (ad := ad) (G := G)  (q1.2.2.2.1 22 ((x2 * 12) + a3).toNatClampNeg) q1.2 _ hr hf
  · rw [if_pos c3] at hf
    refine rw_iconst (v := (-1)) dX5_partner_14 (by decide) ?_
    replace hf := Option.some.inj hf
    subst hf
    exact rw_ireturn dX5_partner_15 rfl ⟨rfl, hr⟩ (by decide) (by decide)
def jX0_spread_111   (σ : rS) : Option (Unit × rS) := some ((), σ)
set_option maxHeartbeats 4000000 in
theorem t_jX0_spread_111 {G : rG} {ad : Nat → Nat} {o : (Unit × rS)}    (σ : rS) (h : rH) (hr : Rep G ad σ h) (hf : jX0_spread_111   σ = some o) : RW G mX0_spread (rm 2 0 0) (qV G ad o) xN 0 0 111 [] [] h := by
  unfold jX0_spread_111 at hf
  replace hf := Option.some.inj hf
  subst hf
  exact rw_return dX0_spread_111 rfl ⟨rfl, hr⟩ (by decide) (by decide)
def jX0_spread_99 (k3 : Int32 → Int32 → rS → Option (Unit × rS)) (k47 : Int32 → Int32 → Int32 → Int32 → Int32 → rS → Option (Unit × rS)) (v1 : Int32) (v4 : Int32) (v5 : Int32) (v6 : Int32) (v7 : Int32) (σ : rS) : Option (Unit × rS) := vI (v7 + 1) fun x19 => k47 v1 v4 v5 v6 x19 σ
set_option maxHeartbeats 4000000 in
theorem t_jX0_spread_99 {G : rG} {ad : Nat → Nat} {o : (Unit × rS)} (k3 : Int32 → Int32 → rS → Option (Unit × rS)) (k47 : Int32 → Int32 → Int32 → Int32 → Int32 → rS → Option (Unit × rS)) (hk3 : ∀ (v1 : Int32) (v4 : Int32) (σ : rS) (h : rH), Rep G ad σ h → k3 v1 v4 σ = some o → RW G mX0_spread (rm 2 0 0) (qV G ad o) xN 0 0 3 [(0, .ref (ad 25)), (1, .int v1), (2, .ref (ad 10)), (3, .ref (ad 18)), (4, .int v4)] [] h) (hk47 : ∀ (v1 : Int32) (v4 : Int32) (v5 : Int32) (v6 : Int32) (v7 : Int32) (σ : rS) (h : rH), Rep G ad σ h → k47 v1 v4 v5 v6 v7 σ = some o → RW G mX0_spread (rm 2 0 0) (qV G ad o) xN 0 0 47 [(0, .ref (ad 25)), (1, .int v1), (2, .ref (ad 10)), (3, .ref (ad 18)), (4, .int v4), (5, .int v5), (6, .int v6), (7, .int v7)] [] h) (v1 : Int32) (v4 : Int32) (v5 : Int32) (v6 : Int32) (v7 : Int32) (σ : rS) (h : rH) (hr : Rep G ad σ h) (hf : jX0_spread_99 k3 k47 v1 v4 v5 v6 v7 σ = some o) : RW G mX0_spread (rm 2 0 0) (qV G ad o) xN 0 0 99 [(0, .ref (ad 25)), (1, .int v1), (2, .ref (ad 10)), (3, .ref (ad 18)), (4, .int v4), (5, .int v5), (6, .int v6), (7, .int v7)] [] h := by
  unfold jX0_spread_99 at hf
  refine rw_iinc (v := v7 + 1) (lv2 := [(7, .int (v7 + 1)), (0, .ref (ad 25)), (1, .int v1), (2, .ref (ad 10)), (3, .ref (ad 18)), (4, .int v4), (5, .int v5), (6, .int v6)]) dX0_spread_99 7 rfl rfl (by decide) rfl ?_
  refine nmL hf (fun x19 hf => ?_)
  refine rw_goto (tgt := 47) dX0_spread_102 (by decide) ?_
  refine rw_sub [1, 2, 3, 4, 5, 6, 7, 0] rfl ?_
  exact hk47 v1 v4 v5 v6 x19 σ _ hr hf
def lX0_spread_47 (k3 : Int32 → Int32 → rS → Option (Unit × rS)) : Nat → Int32 → Int32 → Int32 → Int32 → Int32 → rS → Option (Unit × rS)
  | 0, _, _, _, _, _, _ => none
  | n + 1, v1, v4, v5, v6, v7, σ => if v1 ≤ v7 then vI (v4 + 1) fun x10 => k3 v1 x10 σ else (fX5_partner v5 v7 v6 σ).bind fun q11 => vI q11.1 fun x12 => if x12 = ((-1)) then jX0_spread_99 k3 (lX0_spread_47 k3 n) v1 v4 v5 v6 v7 q11.2 else (fX11_slotOf v7 x12 q11.2).bind fun q14 => if inB q14.1 192 then (if (q14.2.2.2.1 26 q14.1.toNatClampNeg) = ((-1)) then (fX11_slotOf v7 x12 q14.2).bind fun q17 => (fX0_reach q17.1 q17.2).bind fun q18 => jX0_spread_99 k3 (lX0_spread_47 k3 n) v1 v4 v5 v6 v7 q18.2 else jX0_spread_99 k3 (lX0_spread_47 k3 n) v1 v4 v5 v6 v7 q14.2) else none
set_option maxHeartbeats 4000000 in
theorem t_lX0_spread_47 {G : rG} {ad : Nat → Nat} {o : (Unit × rS)} (k3 : Int32 → Int32 → rS → Option (Unit × rS)) (hk3 : ∀ (v1 : Int32) (v4 : Int32) (σ : rS) (h : rH), Rep G ad σ h → k3 v1 v4 σ = some o → RW G mX0_spread (rm 2 0 0) (qV G ad o) xN 0 0 3 [(0, .ref (ad 25)), (1, .int v1), (2, .ref (ad 10)), (3, .ref (ad 18)), (4, .int v4)] [] h) : ∀ (n : Nat) (v1 : Int32) (v4 : Int32) (v5 : Int32) (v6 : Int32) (v7 : Int32) (σ : rS) (h : rH), Rep G ad σ h → lX0_spread_47 k3 n v1 v4 v5 v6 v7 σ = some o → RW G mX0_spread (rm 2 0 0) (qV G ad o) xN 0 0 47 [(0, .ref (ad 25)), (1, .int v1), (2, .ref (ad 10)), (3, .ref (ad 18)), (4, .int v4), (5, .int v5), (6, .int v6), (7, .int v7)] [] h := by
  intro n
  induction n with
  | zero =>
    intro v1 v4 v5 v6 v7 σ h hr hf
    rw [lX0_spread_47] at hf
    cases hf
  | succ n ih =>
    intro v1 v4 v5 v6 v7 σ h hr hf
    rw [lX0_spread_47] at hf
    refine rw_iload dX0_spread_47 7 rfl ?_
    refine rw_iload_n dX0_spread_49 1 rfl rfl ?_
    refine rw_icmp_ge (tgt := 105) dX0_spread_50 (by decide) (fun c9 => ?_) (fun c9 => ?_)
    · rw [if_pos c9] at hf
      refine rw_iinc (v := v4 + 1) (lv2 := [(4, .int (v4 + 1)), (0, .ref (ad 25)), (1, .int v1), (2, .ref (ad 10)), (3, .ref (ad 18)), (5, .int v5), (6, .int v6), (7, .int v7)]) dX0_spread_105 4 rfl rfl (by decide) rfl ?_
      refine nmL hf (fun x10 hf => ?_)
      refine rw_goto (tgt := 3) dX0_spread_108 (by decide) ?_
      refine rw_sub [1, 2, 3, 4, 0] rfl ?_
      exact hk3 v1 x10 σ _ hr hf
    · rw [if_neg c9] at hf
      refine rw_aload_n dX0_spread_53 3 rfl rfl ?_
      refine rw_aload_n dX0_spread_54 2 rfl rfl ?_
      refine rw_iload dX0_spread_55 5 rfl ?_
      refine rw_iload dX0_spread_57 7 rfl ?_
      refine rw_iload dX0_spread_59 6 rfl ?_
      obtain ⟨q11, hq11, hf⟩ := bnd hf
      refine kV_I (ad := ad) (As := [.ref (ad 10), .int v5, .int v7, .int v6]) (st := []) dX0_spread_61 calX5_partner wm676 wm677 wm678 rfl rfl (rc_18 hr) (ci := 5) (by decide) rfl rfl (Nat.le_of_ble_eq_true rfl) ⟨⟨by decide, by decide⟩, by decide, by decide⟩ (cmX5_partner hr hq11) (fun h hr => ?_)
      refine nmI hf (fun x12 hf => ?_)
      refine rw_istore (lv2 := [(8, .int x12), (0, .ref (ad 25)), (1, .int v1), (2, .ref (ad 10)), (3, .ref (ad 18)), (4, .int v4), (5, .int v5), (6, .int v6), (7, .int v7)]) dX0_spread_64 (by decide) rfl ?_
      refine rw_iload dX0_spread_66 0 rfl ?_
      refine rw_iconst (v := (-1)) dX0_spread_68 (by decide) ?_
      refine rw_icmp_eq (tgt := 99) dX0_spread_69 (by decide) (fun c13 => ?_) (fun c13 => ?_)
      · rw [if_pos c13] at hf
        refine rw_sub [1, 2, 3, 4, 5, 6, 7, 8] rfl ?_
        exact t_jX0_spread_99 (ad := ad) (G := G) k3 (lX0_spread_47 k3 n) hk3 ih v1 v4 v5 v6 v7 q11.2 _ hr hf
      · rw [if_neg c13] at hf
        refine rw_aload_n dX0_spread_72 1 rfl rfl ?_
        refine sg_25_0 hr dX0_spread_73 fl314 ?_
        refine rw_iload dX0_spread_76 8 rfl ?_
        refine rw_iload dX0_spread_78 0 rfl ?_
        obtain ⟨q14, hq14, hf⟩ := bnd hf
        refine kSN_I (ad := ad) (As := [.int v7, .int x12]) (st := [.ref (ad 26)]) dX0_spread_80 calX11_slotOf wm661 wm662 rfl rfl (Nat.le_of_ble_eq_true rfl) ⟨⟨by decide, by decide⟩, by decide, by decide⟩ (cmX11_slotOf hr hq14) (fun h hr => ?_)
        obtain ⟨hi15, hf⟩ := grd hf
        refine sl_26 hr dX0_spread_83 (inB_in hi15) ?_
        refine rw_iconst (v := (-1)) dX0_spread_84 (by decide) ?_
        refine rw_icmp_ne (tgt := 99) dX0_spread_85 (by decide) (fun c16 => ?_) (fun c16 => ?_)
        · rw [if_neg c16] at hf
          refine rw_sub [1, 2, 3, 4, 5, 6, 7, 8] rfl ?_
          exact t_jX0_spread_99 (ad := ad) (G := G) k3 (lX0_spread_47 k3 n) hk3 ih v1 v4 v5 v6 v7 q14.2 _ hr hf
        · rw [if_pos c16] at hf
          refine rw_aload_n dX0_spread_88 1 rfl rfl ?_
          refine rw_iload dX0_spread_89 8 rfl ?_
          refine rw_iload dX0_spread_91 0 rfl ?_
          obtain ⟨q17, hq17, hf⟩ := bnd hf
          refine kSN_I (ad := ad) (As := [.int v7, .int x12]) (st := [.ref (ad 25)]) dX0_spread_93 calX11_slotOf wm661 wm662 rfl rfl (Nat.le_of_ble_eq_true rfl) ⟨⟨by decide, by decide⟩, by decide, by decide⟩ (cmX11_slotOf hr hq17) (fun h hr => ?_)
          obtain ⟨q18, hq18, hf⟩ := bnd hf
          refine kV_V (ad := ad) (As := [.int q17.1]) (st := []) dX0_spread_96 calX0_reach wm668 wm670 wm14 rfl rfl (rc_25 hr) (ci := 1) (by decide) rfl rfl (Nat.le_of_ble_eq_true rfl) ⟨⟨by decide, by decide⟩, by decide, by decide⟩ (cmX0_reach hr hq18) (fun h hr => ?_)
          refine rw_sub [1, 2, 3, 4, 5, 6, 7, 8] rfl ?_
          exact t_jX0_spread_99 (ad := ad) (G := G) k3 (lX0_spread_47 k3 n) hk3 ih v1 v4 v5 v6 v7 q18.2 _ hr hf
def lX0_spread_3  : Nat → Int32 → Int32 → rS → Option (Unit × rS)
  | 0, _, _, _ => none
  | n + 1, v1, v4, σ => if (σ.1 25 9) ≤ v4 then jX0_spread_111 σ else if 192 ≤ v4 then jX0_spread_111 σ else if inB v4 192 then vI ((σ.2.2.1 33 v4.toNatClampNeg) / 12) fun x5 => if inB v4 192 then vI ((σ.2.2.1 33 v4.toNatClampNeg) - (σ.2.2.1 33 v4.toNatClampNeg) / 12 * 12) fun x8 => lX0_spread_47 (lX0_spread_3 n) 1000 v1 v4 x5 x8 0 σ else none else none
set_option maxHeartbeats 4000000 in
theorem t_lX0_spread_3 {G : rG} {ad : Nat → Nat} {o : (Unit × rS)}   : ∀ (n : Nat) (v1 : Int32) (v4 : Int32) (σ : rS) (h : rH), Rep G ad σ h → lX0_spread_3  n v1 v4 σ = some o → RW G mX0_spread (rm 2 0 0) (qV G ad o) xN 0 0 3 [(0, .ref (ad 25)), (1, .int v1), (2, .ref (ad 10)), (3, .ref (ad 18)), (4, .int v4)] [] h := by
  intro n
  induction n with
  | zero =>
    intro v1 v4 σ h hr hf
    rw [lX0_spread_3] at hf
    cases hf
  | succ n ih =>
    intro v1 v4 σ h hr hf
    rw [lX0_spread_3] at hf
    refine rw_iload dX0_spread_3 4 rfl ?_
    refine rw_aload_n dX0_spread_5 0 rfl rfl ?_
    refine sg_25_9 hr dX0_spread_6 fl329 ?_
    refine rw_icmp_ge (tgt := 111) dX0_spread_9 (by decide) (fun c1 => ?_) (fun c1 => ?_)
    · rw [if_pos c1] at hf
      refine rw_sub [] rfl ?_
      exact t_jX0_spread_111 (ad := ad) (G := G)  σ _ hr hf
    · rw [if_neg c1] at hf
      refine rw_iload dX0_spread_12 4 rfl ?_
      refine rw_sipush (v := 192) dX0_spread_14 (by decide) ?_
      refine rw_icmp_ge (tgt := 111) dX0_spread_17 (by decide) (fun c2 => ?_) (fun c2 => ?_)
      · rw [if_pos c2] at hf
        refine rw_sub [] rfl ?_
        exact t_jX0_spread_111 (ad := ad) (G := G)  σ _ hr hf
      · rw [if_neg c2] at hf
        refine rw_aload_n dX0_spread_20 0 rfl rfl ?_
        refine sg_25_8 hr dX0_spread_21 fl328 ?_
        refine rw_iload dX0_spread_24 4 rfl ?_
        obtain ⟨hi3, hf⟩ := grd hf
        refine sl_33 hr dX0_spread_26 (inB_in hi3) ?_
        refine rw_bipush (v := 12) dX0_spread_27 (by decide) ?_
        refine rw_idiv dX0_spread_29 (by decide) ?_
        refine nmI hf (fun x5 hf => ?_)
        refine rw_istore (lv2 := [(5, .int x5), (0, .ref (ad 25)), (1, .int v1), (2, .ref (ad 10)), (3, .ref (ad 18)), (4, .int v4)]) dX0_spread_30 (by decide) rfl ?_
        refine rw_aload_n dX0_spread_32 1 rfl rfl ?_
        refine sg_25_8 hr dX0_spread_33 fl328 ?_
        refine rw_iload dX0_spread_36 5 rfl ?_
        obtain ⟨hi6, hf⟩ := grd hf
        refine sl_33 hr dX0_spread_38 (inB_in hi6) ?_
        refine rw_bipush (v := 12) dX0_spread_39 (by decide) ?_
        refine rw_irem dX0_spread_41 (by decide) ?_
        refine nmI hf (fun x8 hf => ?_)
        refine rw_istore (lv2 := [(6, .int x8), (5, .int x5), (0, .ref (ad 25)), (1, .int v1), (2, .ref (ad 10)), (3, .ref (ad 18)), (4, .int v4)]) dX0_spread_42 (by decide) rfl ?_
        refine rw_iconst (v := 0) dX0_spread_44 (by decide) ?_
        refine rw_istore (lv2 := [(7, .int 0), (6, .int x8), (5, .int x5), (0, .ref (ad 25)), (1, .int v1), (2, .ref (ad 10)), (3, .ref (ad 18)), (4, .int v4)]) dX0_spread_45 (by decide) rfl ?_
        refine rw_sub [3, 4, 5, 6, 7, 2, 1, 0] rfl ?_
        exact t_lX0_spread_47 (ad := ad) (G := G) (lX0_spread_3 n) ih 1000 v1 v4 x5 x8 0 σ _ hr hf
def fX0_spread (a0 : Int32) (σ : rS) : Option (Unit × rS) := lX0_spread_3 1000 a0 0 σ
set_option maxHeartbeats 4000000 in
theorem cmX0_spread {G : rG} {ad : Nat → Nat} {a0 : Int32} {σ : rS} {h : rH} {o : (Unit × rS)} (hr : Rep G ad σ h) (hf : fX0_spread a0 σ = some o) : rMT G mX0_spread (rm 2 0 0) [.ref (ad 25), .int a0, .ref (ad 10), .ref (ad 18)] h (qV G ad o) xN := by
  unfold fX0_spread at hf
  refine rw_met (by decide +kernel) rfl (Nat.le_of_ble_eq_true rfl) ?_
  show RW G _ _ _ _ 0 0 0 [(0, .ref (ad 25)), (1, .int a0), (2, .ref (ad 10)), (3, .ref (ad 18))] [] h
  refine rw_iconst (v := 0) dX0_spread_0 (by decide) ?_
  refine rw_istore (lv2 := [(4, .int 0), (0, .ref (ad 25)), (1, .int a0), (2, .ref (ad 10)), (3, .ref (ad 18))]) dX0_spread_1 (by decide) rfl ?_
  refine rw_sub [1, 2, 3, 4, 0] rfl ?_
  exact t_lX0_spread_3 (ad := ad) (G := G)  1000 a0 0 σ _ hr hf
def jX0_gather_133 (k47 : Int32 → rS → Option (Unit × rS)) (k68 : Int32 → Nat → Int32 → rS → Option (Unit × rS)) (v4 : Int32) (v5 : Nat) (v6 : Int32) (σ : rS) : Option (Unit × rS) := vI (v6 + 1) fun x22 => k68 v4 v5 x22 σ
set_option maxHeartbeats 4000000 in
theorem t_jX0_gather_133 {G : rG} {ad : Nat → Nat} {o : (Unit × rS)} (k47 : Int32 → rS → Option (Unit × rS)) (k68 : Int32 → Nat → Int32 → rS → Option (Unit × rS)) (hk47 : ∀ (v4 : Int32) (σ : rS) (h : rH), Rep G ad σ h → k47 v4 σ = some o → RW G mX0_gather (rm 3 0 0) (qV G ad o) xN 0 0 47 [(0, .ref (ad 25)), (1, .ref (ad 1)), (2, .ref (ad 10)), (3, .ref (ad 18)), (4, .int v4)] [] h) (hk68 : ∀ (v4 : Int32) (v5 : Nat) (v6 : Int32) (σ : rS) (h : rH), Rep G ad σ h → k68 v4 v5 v6 σ = some o → RW G mX0_gather (rm 3 0 0) (qV G ad o) xN 0 0 68 [(0, .ref (ad 25)), (1, .ref (ad 1)), (2, .ref (ad 10)), (3, .ref (ad 18)), (4, .int v4), (5, .ref (ad v5)), (6, .int v6)] [] h) (v4 : Int32) (v5 : Nat) (v6 : Int32) (σ : rS) (h : rH) (hr : Rep G ad σ h) (hf : jX0_gather_133 k47 k68 v4 v5 v6 σ = some o) : RW G mX0_gather (rm 3 0 0) (qV G ad o) xN 0 0 133 [(0, .ref (ad 25)), (1, .ref (ad 1)), (2, .ref (ad 10)), (3, .ref (ad 18)), (4, .int v4), (5, .ref (ad v5)), (6, .int v6)] [] h := by
  unfold jX0_gather_133 at hf
  refine rw_iinc (v := v6 + 1) (lv2 := [(6, .int (v6 + 1)), (0, .ref (ad 25)), (1, .ref (ad 1)), (2, .ref (ad 10)), (3, .ref (ad 18)), (4, .int v4), (5, .ref (ad v5))]) dX0_gather_133 6 rfl rfl (by decide) rfl ?_
  refine nmL hf (fun x22 hf => ?_)
  refine rw_goto (tgt := 68) dX0_gather_136 (by decide) ?_
  refine rw_sub [1, 2, 3, 4, 5, 6, 0] rfl ?_
  exact hk68 v4 v5 x22 σ _ hr hf
def lX0_gather_68 (k47 : Int32 → rS → Option (Unit × rS)) : Nat → Int32 → Nat → Int32 → rS → Option (Unit × rS)
  | 0, _, _, _, _ => none
  | n + 1, v4, v5, v6, σ => if isBo v5 then (if (σ.1 v5 4) ≤ v6 then vI (v4 + 1) fun x11 => k47 x11 σ else (fX11_slotOf v4 v6 σ).bind fun q12 => if inB q12.1 192 then (if (q12.2.2.2.1 26 q12.1.toNatClampNeg) = ((-1)) then (fX11_slotOf v4 v6 q12.2).bind fun q15 => if isBo v5 then if isKi (v5 + 2) then if inB v6 12 then (fX0_begin q15.1 (q15.2.2.2.1 (v5 + 2) v6.toNatClampNeg) q15.2).bind fun q19 => (fX0_spread (q19.2.1 1 1) q19.2).bind fun q20 => vS (uI q20.2 25 5 ((q20.2.1 25 5) + 1)) fun σ21 => jX0_gather_133 k47 (lX0_gather_68 k47 n) v4 v5 v6 σ21 else none else none else none else jX0_gather_133 k47 (lX0_gather_68 k47 n) v4 v5 v6 q12.2) else none) else none
set_option maxHeartbeats 4000000 in
theorem t_lX0_gather_68 {G : rG} {ad : Nat → Nat} {o : (Unit × rS)} (k47 : Int32 → rS → Option (Unit × rS)) (hk47 : ∀ (v4 : Int32) (σ : rS) (h : rH), Rep G ad σ h → k47 v4 σ = some o → RW G mX0_gather (rm 3 0 0) (qV G ad o) xN 0 0 47 [(0, .ref (ad 25)), (1, .ref (ad 1)), (2, .ref (ad 10)), (3, .ref (ad 18)), (4, .int v4)] [] h) : ∀ (n : Nat) (v4 : Int32) (v5 : Nat) (v6 : Int32) (σ : rS) (h : rH), Rep G ad σ h → lX0_gather_68 k47 n v4 v5 v6 σ = some o → RW G mX0_gather (rm 3 0 0) (qV G ad o) xN 0 0 68 [(0, .ref (ad 25)), (1, .ref (ad 1)), (2, .ref (ad 10)), (3, .ref (ad 18)), (4, .int v4), (5, .ref (ad v5)), (6, .int v6)] [] h := by
  intro n
  induction n with
  | zero =>
    intro v4 v5 v6 σ h hr hf
    rw [lX0_gather_68] at hf
    cases hf
  | succ n ih =>
    intro v4 v5 v6 σ h hr hf
    rw [lX0_gather_68] at hf
    refine rw_iload dX0_gather_68 6 rfl ?_
    refine rw_aload dX0_gather_70 5 rfl ?_
    obtain ⟨hp9, hf⟩ := grd hf
    refine sg_Bo_4 hr dX0_gather_72 fl148 hp9 ?_
    refine rw_icmp_ge (tgt := 139) dX0_gather_75 (by decide) (fun c10 => ?_) (fun c10 => ?_)
    · rw [if_pos c10] at hf
      refine rw_iinc (v := v4 + 1) (lv2 := [(4, .int (v4 + 1)), (0, .ref (ad 25)), (1, .ref (ad 1)), (2, .ref (ad 10)), (3, .ref (ad 18)), (5, .ref (ad v5)), (6, .int v6)]) dX0_gather_139 4 rfl rfl (by decide) rfl ?_
      refine nmL hf (fun x11 hf => ?_)
      refine rw_goto (tgt := 47) dX0_gather_142 (by decide) ?_
      refine rw_sub [1, 2, 3, 4, 0] rfl ?_
      exact hk47 x11 σ _ hr hf
    · rw [if_neg c10] at hf
      refine rw_aload_n dX0_gather_78 0 rfl rfl ?_
      refine sg_25_0 hr dX0_gather_79 fl314 ?_
      refine rw_iload dX0_gather_82 4 rfl ?_
      refine rw_iload dX0_gather_84 6 rfl ?_
      obtain ⟨q12, hq12, hf⟩ := bnd hf
      refine kSN_I (ad := ad) (As := [.int v4, .int v6]) (st := [.ref (ad 26)]) dX0_gather_86 calX11_slotOf wm661 wm662 rfl rfl (Nat.le_of_ble_eq_true rfl) ⟨⟨by decide, by decide⟩, by decide, by decide⟩ (cmX11_slotOf hr hq12) (fun h hr => ?_)
      obtain ⟨hi13, hf⟩ := grd hf
      refine sl_26 hr dX0_gather_89 (inB_in hi13) ?_
      refine rw_iconst (v := (-1)) dX0_gather_90 (by decide) ?_
      refine rw_icmp_ne (tgt := 133) dX0_gather_91 (by decide) (fun c14 => ?_) (fun c14 => ?_)
      · rw [if_neg c14] at hf
        exact t_jX0_gather_133 (ad := ad) (G := G) k47 (lX0_gather_68 k47 n) hk47 ih v4 v5 v6 q12.2 _ hr hf
      · rw [if_pos c14] at hf
        refine rw_aload_n dX0_gather_94 0 rfl rfl ?_
        refine rw_iload dX0_gather_95 4 rfl ?_
        refine rw_iload dX0_gather_97 6 rfl ?_
        obtain ⟨q15, hq15, hf⟩ := bnd hf
        refine kSN_I (ad := ad) (As := [.int v4, .int v6]) (st := [.ref (ad 25)]) dX0_gather_99 calX11_slotOf wm661 wm662 rfl rfl (Nat.le_of_ble_eq_true rfl) ⟨⟨by decide, by decide⟩, by decide, by decide⟩ (cmX11_slotOf hr hq15) (fun h hr => ?_)
        refine rw_aload dX0_gather_102 5 rfl ?_
        obtain ⟨hp16, hf⟩ := grd hf
        refine sg_Bo_1 hr dX0_gather_104 fl140 hp16 ?_
        refine rw_iload dX0_gather_107 6 rfl ?_
        obtain ⟨hp18, hf⟩ := grd hf
        obtain ⟨hi17, hf⟩ := grd hf
        refine sl_Ki hr dX0_gather_109 hp18 (inB_in hi17) ?_
        obtain ⟨q19, hq19, hf⟩ := bnd hf
        refine kV_V (ad := ad) (As := [.int q15.1, .int (q15.2.2.2.1 (v5 + 2) v6.toNatClampNeg)]) (st := []) dX0_gather_110 calX0_begin wm664 wm666 wm13 rfl rfl (rc_25 hr) (ci := 1) (by decide) rfl rfl (Nat.le_of_ble_eq_true rfl) ⟨⟨by decide, by decide⟩, by decide, by decide⟩ (cmX0_begin hr hq19) (fun h hr => ?_)
        refine rw_aload_n dX0_gather_113 0 rfl rfl ?_
        refine rw_aload_n dX0_gather_114 1 rfl rfl ?_
        refine sg_1_1 hr dX0_gather_115 fl171 ?_
        refine rw_aload_n dX0_gather_118 2 rfl rfl ?_
        refine rw_aload_n dX0_gather_119 3 rfl rfl ?_
        obtain ⟨q20, hq20, hf⟩ := bnd hf
        refine kV_V (ad := ad) (As := [.int (q19.2.1 1 1), .ref (ad 10), .ref (ad 18)]) (st := []) dX0_gather_120 calX0_spread wm672 wm674 wm15 rfl rfl (rc_25 hr) (ci := 1) (by decide) rfl rfl (Nat.le_of_ble_eq_true rfl) ⟨⟨by decide, by decide⟩, by decide, by decide⟩ (cmX0_spread hr hq20) (fun h hr => ?_)
        refine rw_aload_n dX0_gather_123 0 rfl rfl ?_
        refine rw_dup dX0_gather_124 rfl ?_
        refine sg_25_5 hr dX0_gather_125 fl324 ?_
        refine rw_iconst (v := 1) dX0_gather_128 (by decide) ?_
        refine rw_iadd dX0_gather_129 ?_
        refine sp_25_5 hr dX0_gather_130 fl324 (fun h hr => ?_)
        refine nmS hf hr (fun σ21 hr hf => ?_)
        exact t_jX0_gather_133 (ad := ad) (G := G) k47 (lX0_gather_68 k47 n) hk47 ih v4 v5 v6 σ21 _ hr hf
def lX0_gather_47  : Nat → Int32 → rS → Option (Unit × rS)
  | 0, _, _ => none
  | n + 1, v4, σ => if (σ.1 1 1) ≤ v4 then some ((), σ) else if inB v4 16 then lX0_gather_68 (lX0_gather_47 n) 1000 v4 (80 + 4 * v4.toNatClampNeg) 0 σ else none
set_option maxHeartbeats 4000000 in
theorem t_lX0_gather_47 {G : rG} {ad : Nat → Nat} {o : (Unit × rS)}   : ∀ (n : Nat) (v4 : Int32) (σ : rS) (h : rH), Rep G ad σ h → lX0_gather_47  n v4 σ = some o → RW G mX0_gather (rm 3 0 0) (qV G ad o) xN 0 0 47 [(0, .ref (ad 25)), (1, .ref (ad 1)), (2, .ref (ad 10)), (3, .ref (ad 18)), (4, .int v4)] [] h := by
  intro n
  induction n with
  | zero =>
    intro v4 σ h hr hf
    rw [lX0_gather_47] at hf
    cases hf
  | succ n ih =>
    intro v4 σ h hr hf
    rw [lX0_gather_47] at hf
    refine rw_iload dX0_gather_47 4 rfl ?_
    refine rw_aload_n dX0_gather_49 1 rfl rfl ?_
    refine sg_1_1 hr dX0_gather_50 fl171 ?_
    refine rw_icmp_ge (tgt := 145) dX0_gather_53 (by decide) (fun c7 => ?_) (fun c7 => ?_)
    · rw [if_pos c7] at hf
      replace hf := Option.some.inj hf
      subst hf
      exact rw_return dX0_gather_145 rfl ⟨rfl, hr⟩ (by decide) (by decide)
    · rw [if_neg c7] at hf
      refine rw_aload_n dX0_gather_56 1 rfl rfl ?_
      refine sg_1_0 hr dX0_gather_57 fl165 ?_
      refine rw_iload dX0_gather_60 4 rfl ?_
      obtain ⟨hi8, hf⟩ := grd hf
      refine sa_2 hr dX0_gather_62 (inB_in hi8) ?_
      refine rw_astore (lv2 := [(5, .ref (ad (80 + 4 * v4.toNatClampNeg))), (0, .ref (ad 25)), (1, .ref (ad 1)), (2, .ref (ad 10)), (3, .ref (ad 18)), (4, .int v4)]) dX0_gather_63 (by decide) rfl ?_
      refine rw_iconst (v := 0) dX0_gather_65 (by decide) ?_
      refine rw_istore (lv2 := [(6, .int 0), (5, .ref (ad (80 + 4 * v4.toNatClampNeg))), (0, .ref (ad 25)), (1, .ref (ad 1)), (2, .ref (ad 10)), (3, .ref (ad 18)), (4, .int v4)]) dX0_gather_66 (by decide) rfl ?_
      refine rw_sub [2, 3, 4, 5, 6, 1, 0] rfl ?_
      exact t_lX0_gather_68 (ad := ad) (G := G) (lX0_gather_47 n) ih 1000 v4 (80 + 4 * v4.toNatClampNeg) 0 σ _ hr hf
def lX0_gather_16  : Nat → Int32 → rS → Option (Unit × rS)
  | 0, _, _ => none
  | n + 1, v4, σ => if (σ.1 1 1) ≤ v4 then lX0_gather_47 1000 0 σ else if inB v4 16 then (fX0_measure (80 + 4 * v4.toNatClampNeg) v4 σ).bind fun q5 => vI (v4 + 1) fun x6 => (lX0_gather_16 n) x6 q5.2 else none
set_option maxHeartbeats 4000000 in
theorem t_lX0_gather_16 {G : rG} {ad : Nat → Nat} {o : (Unit × rS)}   : ∀ (n : Nat) (v4 : Int32) (σ : rS) (h : rH), Rep G ad σ h → lX0_gather_16  n v4 σ = some o → RW G mX0_gather (rm 3 0 0) (qV G ad o) xN 0 0 16 [(0, .ref (ad 25)), (1, .ref (ad 1)), (2, .ref (ad 10)), (3, .ref (ad 18)), (4, .int v4)] [] h := by
  intro n
  induction n with
  | zero =>
    intro v4 σ h hr hf
    rw [lX0_gather_16] at hf
    cases hf
  | succ n ih =>
    intro v4 σ h hr hf
    rw [lX0_gather_16] at hf
    refine rw_iload dX0_gather_16 4 rfl ?_
    refine rw_aload_n dX0_gather_18 1 rfl rfl ?_
    refine sg_1_1 hr dX0_gather_19 fl171 ?_
    refine rw_icmp_ge (tgt := 44) dX0_gather_22 (by decide) (fun c3 => ?_) (fun c3 => ?_)
    · rw [if_pos c3] at hf
      refine rw_iconst (v := 0) dX0_gather_44 (by decide) ?_
      refine rw_istore (lv2 := [(4, .int 0), (0, .ref (ad 25)), (1, .ref (ad 1)), (2, .ref (ad 10)), (3, .ref (ad 18))]) dX0_gather_45 (by decide) rfl ?_
      refine rw_sub [1, 2, 3, 4, 0] rfl ?_
      exact t_lX0_gather_47 (ad := ad) (G := G)  1000 0 σ _ hr hf
    · rw [if_neg c3] at hf
      refine rw_aload_n dX0_gather_25 0 rfl rfl ?_
      refine rw_aload_n dX0_gather_26 1 rfl rfl ?_
      refine sg_1_0 hr dX0_gather_27 fl165 ?_
      refine rw_iload dX0_gather_30 4 rfl ?_
      obtain ⟨hi4, hf⟩ := grd hf
      refine sa_2 hr dX0_gather_32 (inB_in hi4) ?_
      refine rw_iload dX0_gather_33 4 rfl ?_
      obtain ⟨q5, hq5, hf⟩ := bnd hf
      refine kV_V (ad := ad) (As := [.ref (ad (80 + 4 * v4.toNatClampNeg)), .int v4]) (st := []) dX0_gather_35 calX0_measure wm657 wm659 wm12 rfl rfl (rc_25 hr) (ci := 1) (by decide) rfl rfl (Nat.le_of_ble_eq_true rfl) ⟨⟨by decide, by decide⟩, by decide, by decide⟩ (cmX0_measure hr hq5) (fun h hr => ?_)
      refine rw_iinc (v := v4 + 1) (lv2 := [(4, .int (v4 + 1)), (0, .ref (ad 25)), (1, .ref (ad 1)), (2, .ref (ad 10)), (3, .ref (ad 18))]) dX0_gather_38 4 rfl rfl (by decide) rfl ?_
      refine nmL hf (fun x6 hf => ?_)
      refine rw_goto (tgt := 16) dX0_gather_41 (by decide) ?_
      refine rw_sub [1, 2, 3, 4, 0] rfl ?_
      exact ih x6 q5.2 _ hr hf
def fX0_gather  (σ : rS) : Option (Unit × rS) := vS (uI σ 25 5 0) fun σ1 => (fJ7_fill_53178_a26 ((-1)) σ1).bind fun q2 => lX0_gather_16 1000 0 q2.2
set_option maxHeartbeats 4000000 in
theorem cmX0_gather {G : rG} {ad : Nat → Nat}  {σ : rS} {h : rH} {o : (Unit × rS)} (hr : Rep G ad σ h) (hf : fX0_gather  σ = some o) : rMT G mX0_gather (rm 3 0 0) [.ref (ad 25), .ref (ad 1), .ref (ad 10), .ref (ad 18)] h (qV G ad o) xN := by
  unfold fX0_gather at hf
  refine rw_met (by decide +kernel) rfl (Nat.le_of_ble_eq_true rfl) ?_
  show RW G _ _ _ _ 0 0 0 [(0, .ref (ad 25)), (1, .ref (ad 1)), (2, .ref (ad 10)), (3, .ref (ad 18))] [] h
  refine rw_aload_n dX0_gather_0 0 rfl rfl ?_
  refine rw_iconst (v := 0) dX0_gather_1 (by decide) ?_
  refine sp_25_5 hr dX0_gather_2 fl324 (fun h hr => ?_)
  refine nmS hf hr (fun σ1 hr hf => ?_)
  refine rw_aload_n dX0_gather_5 0 rfl rfl ?_
  refine sg_25_0 hr dX0_gather_6 fl314 ?_
  refine rw_iconst (v := (-1)) dX0_gather_9 (by decide) ?_
  obtain ⟨q2, hq2, hf⟩ := bnd hf
  refine kS_V (ad := ad) (As := [.ref (ad 26), .int ((-1))]) (st := []) dX0_gather_10 calJ7_fill_53178 wm656 wm564 rfl rfl (Nat.le_of_ble_eq_true rfl) ⟨⟨by decide, by decide⟩, by decide, by decide⟩ (cmJ7_fill_53178_a26 hr hq2) (fun h hr => ?_)
  refine rw_iconst (v := 0) dX0_gather_13 (by decide) ?_
  refine rw_istore (lv2 := [(4, .int 0), (0, .ref (ad 25)), (1, .ref (ad 1)), (2, .ref (ad 10)), (3, .ref (ad 18))]) dX0_gather_14 (by decide) rfl ?_
  refine rw_sub [1, 2, 3, 4, 0] rfl ?_
  exact t_lX0_gather_16 (ad := ad) (G := G)  1000 0 q2.2 _ hr hf
def lX0_levelIn_6  : Nat → Int32 → Int32 → Int32 → rS → Option (Int32 × rS)
  | 0, _, _, _, _ => none
  | n + 1, v1, v2, v3, σ => (fX11_slotOf (v2 + 1) 0 σ).bind fun q3 => if q3.1 ≤ v3 then some (((-1000000)), q3.2) else if inB v3 192 then (if (q3.2.2.2.1 26 v3.toNatClampNeg) = v1 then if inB v3 192 then some ((q3.2.2.2.1 31 v3.toNatClampNeg), q3.2) else none else vI (v3 + 1) fun x7 => (lX0_levelIn_6 n) v1 v2 x7 q3.2) else none
set_option maxHeartbeats 4000000 in
theorem t_lX0_levelIn_6 {G : rG} {ad : Nat → Nat} {o : (Int32 × rS)}   : ∀ (n : Nat) (v1 : Int32) (v2 : Int32) (v3 : Int32) (σ : rS) (h : rH), Rep G ad σ h → lX0_levelIn_6  n v1 v2 v3 σ = some o → RW G mX0_levelIn (rm 1 0 0) (qI G ad o) xN 0 0 6 [(0, .ref (ad 25)), (1, .int v1), (2, .int v2), (3, .int v3)] [] h := by
  intro n
  induction n with
  | zero =>
    intro v1 v2 v3 σ h hr hf
    rw [lX0_levelIn_6] at hf
    cases hf
  | succ n ih =>
    intro v1 v2 v3 σ h hr hf
    rw [lX0_levelIn_6] at hf
    refine rw_iload_n dX0_levelIn_6 3 rfl rfl ?_
    refine rw_iload_n dX0_levelIn_7 2 rfl rfl ?_
    refine rw_iconst (v := 1) dX0_levelIn_8 (by decide) ?_
    refine rw_iadd dX0_levelIn_9 ?_
    refine rw_iconst (v := 0) dX0_levelIn_10 (by decide) ?_
    obtain ⟨q3, hq3, hf⟩ := bnd hf
    refine kSN_I (ad := ad) (As := [.int (v2 + 1), .int 0]) (st := [.int v3]) dX0_levelIn_11 calX11_slotOf wm661 wm662 rfl rfl (Nat.le_of_ble_eq_true rfl) ⟨⟨by decide, by decide⟩, by decide, by decide⟩ (cmX11_slotOf hr hq3) (fun h hr => ?_)
    refine rw_icmp_ge (tgt := 40) dX0_levelIn_14 (by decide) (fun c4 => ?_) (fun c4 => ?_)
    · rw [if_pos c4] at hf
      refine rw_ldc (v := (-1000000)) dX0_levelIn_40 wm1097 ?_
      replace hf := Option.some.inj hf
      subst hf
      exact rw_ireturn dX0_levelIn_42 rfl ⟨rfl, hr⟩ (by decide) (by decide)
    · rw [if_neg c4] at hf
      refine rw_aload_n dX0_levelIn_17 0 rfl rfl ?_
      refine sg_25_0 hr dX0_levelIn_18 fl314 ?_
      refine rw_iload_n dX0_levelIn_21 3 rfl rfl ?_
      obtain ⟨hi5, hf⟩ := grd hf
      refine sl_26 hr dX0_levelIn_22 (inB_in hi5) ?_
      refine rw_iload_n dX0_levelIn_23 1 rfl rfl ?_
      refine rw_icmp_ne (tgt := 34) dX0_levelIn_24 (by decide) (fun c6 => ?_) (fun c6 => ?_)
      · rw [if_neg c6] at hf
        refine rw_iinc (v := v3 + 1) (lv2 := [(3, .int (v3 + 1)), (0, .ref (ad 25)), (1, .int v1), (2, .int v2)]) dX0_levelIn_34 3 rfl rfl (by decide) rfl ?_
        refine nmL hf (fun x7 hf => ?_)
        refine rw_goto (tgt := 6) dX0_levelIn_37 (by decide) ?_
        refine rw_sub [1, 2, 3, 0] rfl ?_
        exact ih v1 v2 x7 q3.2 _ hr hf
      · rw [if_pos c6] at hf
        refine rw_aload_n dX0_levelIn_27 0 rfl rfl ?_
        refine sg_25_6 hr dX0_levelIn_28 fl326 ?_
        refine rw_iload_n dX0_levelIn_31 3 rfl rfl ?_
        obtain ⟨hi8, hf⟩ := grd hf
        refine sl_31 hr dX0_levelIn_32 (inB_in hi8) ?_
        replace hf := Option.some.inj hf
        subst hf
        exact rw_ireturn dX0_levelIn_33 rfl ⟨rfl, hr⟩ (by decide) (by decide)
def fX0_levelIn (a0 : Int32) (a1 : Int32) (σ : rS) : Option (Int32 × rS) := (fX11_slotOf a1 0 σ).bind fun q1 => vI q1.1 fun x2 => lX0_levelIn_6 1000 a0 a1 x2 q1.2
set_option maxHeartbeats 4000000 in
theorem cmX0_levelIn {G : rG} {ad : Nat → Nat} {a0 : Int32} {a1 : Int32} {σ : rS} {h : rH} {o : (Int32 × rS)} (hr : Rep G ad σ h) (hf : fX0_levelIn a0 a1 σ = some o) : rMT G mX0_levelIn (rm 1 0 0) [.ref (ad 25), .int a0, .int a1] h (qI G ad o) xN := by
  unfold fX0_levelIn at hf
  refine rw_met (by decide +kernel) rfl (Nat.le_of_ble_eq_true rfl) ?_
  show RW G _ _ _ _ 0 0 0 [(0, .ref (ad 25)), (1, .int a0), (2, .int a1)] [] h
  refine rw_iload_n dX0_levelIn_0 2 rfl rfl ?_
  refine rw_iconst (v := 0) dX0_levelIn_1 (by decide) ?_
  obtain ⟨q1, hq1, hf⟩ := bnd hf
  refine kSN_I (ad := ad) (As := [.int a1, .int 0]) (st := []) dX0_levelIn_2 calX11_slotOf wm661 wm662 rfl rfl (Nat.le_of_ble_eq_true rfl) ⟨⟨by decide, by decide⟩, by decide, by decide⟩ (cmX11_slotOf hr hq1) (fun h hr => ?_)
  refine nmI hf (fun x2 hf => ?_)
  refine rw_istore_n (lv2 := [(3, .int x2), (0, .ref (ad 25)), (1, .int a0), (2, .int a1)]) dX0_levelIn_5 rfl (by decide) rfl ?_
  refine rw_sub [1, 2, 3, 0] rfl ?_
  exact t_lX0_levelIn_6 (ad := ad) (G := G)  1000 a0 a1 x2 q1.2 _ hr hf
def fX6_cornerOf (a0 : Int32) (a1 : Int32) (σ : rS) : Option (Int32 × rS) := if inB ((3 * a0) + a1) 81 then some ((σ.2.2.1 17 ((3 * a0) + a1).toNatClampNeg), σ) else none
set_option maxHeartbeats 4000000 in
theorem cmX6_cornerOf {G : rG} {ad : Nat → Nat} {a0 : Int32} {a1 : Int32} {σ : rS} {h : rH} {o : (Int32 × rS)} (hr : Rep G ad σ h) (hf : fX6_cornerOf a0 a1 σ = some o) : rMT G mX6_cornerOf (rm 0 0 0) [.ref (ad 10), .int a0, .int a1] h (qI G ad o) xN := by
  unfold fX6_cornerOf at hf
  refine rw_met (by decide +kernel) rfl (Nat.le_of_ble_eq_true rfl) ?_
  show RW G _ _ _ _ 0 0 0 [(0, .ref (ad 10)), (1, .int a0), (2, .int a1)] [] h
  refine rw_aload_n dX6_cornerOf_0 0 rfl rfl ?_
  refine sg_10_9 hr dX6_cornerOf_1 fl250 ?_
  refine rw_iconst (v := 3) dX6_cornerOf_4 (by decide) ?_
  refine rw_iload_n dX6_cornerOf_5 1 rfl rfl ?_
  refine rw_imul dX6_cornerOf_6 ?_
  refine rw_iload_n dX6_cornerOf_7 2 rfl rfl ?_
  refine rw_iadd dX6_cornerOf_8 ?_
  obtain ⟨hi1, hf⟩ := grd hf
  refine sl_17 hr dX6_cornerOf_9 (inB_in hi1) ?_
  replace hf := Option.some.inj hf
  subst hf
  exact rw_ireturn dX6_cornerOf_10 rfl ⟨rfl, hr⟩ (by decide) (by decide)
def fX0_shareOf (a0 : Int32) (a1 : Int32) (σ : rS) : Option (Int64 × rS) := if a0 = 1 then some ((((2 * a1) * a1).toInt64), σ) else if a0 = 2 then some ((((300 * a1) - (a1 * a1)).toInt64), σ) else if a0 = 3 then some (20000, σ) else some (0, σ)
set_option maxHeartbeats 4000000 in
theorem cmX0_shareOf {G : rG} {ad : Nat → Nat} {a0 : Int32} {a1 : Int32} {σ : rS} {h : rH} {o : (Int64 × rS)} (hr : Rep G ad σ h) (hf : fX0_shareOf a0 a1 σ = some o) : rMT G mX0_shareOf (rm 0 0 0) [.int a0, .int a1] h (qJ G ad o) xN := by
  unfold fX0_shareOf at hf
  refine rw_met (by decide +kernel) rfl (Nat.le_of_ble_eq_true rfl) ?_
  show RW G _ _ _ _ 0 0 0 [(0, .int a0), (1, .int a1)] [] h
  refine rw_iload_n dX0_shareOf_0 0 rfl rfl ?_
  by_cases c1 : a0 = 1
  · rw [if_pos c1] at hf
    refine rw_top c1 (rw_tableIn (off := 42) (tgt := 43) dX0_shareOf_1 (by decide) (by decide) rfl (by decide) ?_)
    refine rw_iconst (v := 2) dX0_shareOf_43 (by decide) ?_
    refine rw_iload_n dX0_shareOf_44 1 rfl rfl ?_
    refine rw_imul dX0_shareOf_45 ?_
    refine rw_iload_n dX0_shareOf_46 1 rfl rfl ?_
    refine rw_imul dX0_shareOf_47 ?_
    refine rw_i2l dX0_shareOf_48 ?_
    replace hf := Option.some.inj hf
    subst hf
    exact rw_lreturn dX0_shareOf_49 rfl ⟨rfl, hr⟩ (by decide) (by decide)
  rw [if_neg c1] at hf
  by_cases c2 : a0 = 2
  · rw [if_pos c2] at hf
    refine rw_top c2 (rw_tableIn (off := 31) (tgt := 32) dX0_shareOf_1 (by decide) (by decide) rfl (by decide) ?_)
    refine rw_sipush (v := 300) dX0_shareOf_32 (by decide) ?_
    refine rw_iload_n dX0_shareOf_35 1 rfl rfl ?_
    refine rw_imul dX0_shareOf_36 ?_
    refine rw_iload_n dX0_shareOf_37 1 rfl rfl ?_
    refine rw_iload_n dX0_shareOf_38 1 rfl rfl ?_
    refine rw_imul dX0_shareOf_39 ?_
    refine rw_isub dX0_shareOf_40 ?_
    refine rw_i2l dX0_shareOf_41 ?_
    replace hf := Option.some.inj hf
    subst hf
    exact rw_lreturn dX0_shareOf_42 rfl ⟨rfl, hr⟩ (by decide) (by decide)
  rw [if_neg c2] at hf
  by_cases c3 : a0 = 3
  · rw [if_pos c3] at hf
    refine rw_top c3 (rw_tableIn (off := 27) (tgt := 28) dX0_shareOf_1 (by decide) (by decide) rfl (by decide) ?_)
    refine rw_ldc2 (v := 20000) dX0_shareOf_28 wm1146 ?_
    replace hf := Option.some.inj hf
    subst hf
    exact rw_lreturn dX0_shareOf_31 rfl ⟨rfl, hr⟩ (by decide) (by decide)
  rw [if_neg c3] at hf
  refine rw_tableOut (tgt := 50) dX0_shareOf_1 (tb_out3_1 c1 c2 c3) (by decide) ?_
  refine rw_lconst (v := 0) dX0_shareOf_50 (by decide) ?_
  replace hf := Option.some.inj hf
  subst hf
  exact rw_lreturn dX0_shareOf_51 rfl ⟨rfl, hr⟩ (by decide) (by decide)
def jX0_thicknessOn_66 (k6 : Int32 → Int32 → Int64 → Int32 → rS → Option (Int64 × rS)) (k29 : Int32 → Int32 → Int64 → Int32 → Int32 → Int32 → rS → Option (Int64 × rS)) (v2 : Int32) (v3 : Int32) (v4 : Int64) (v6 : Int32) (v7 : Int32) (v8 : Int32) (σ : rS) : Option (Int64 × rS) := vI (v8 + 1) fun x13 => k29 v2 v3 v4 v6 v7 x13 σ
set_option maxHeartbeats 4000000 in
theorem t_jX0_thicknessOn_66 {G : rG} {ad : Nat → Nat} {o : (Int64 × rS)} (k6 : Int32 → Int32 → Int64 → Int32 → rS → Option (Int64 × rS)) (k29 : Int32 → Int32 → Int64 → Int32 → Int32 → Int32 → rS → Option (Int64 × rS)) (hk6 : ∀ (v2 : Int32) (v3 : Int32) (v4 : Int64) (v6 : Int32) (σ : rS) (h : rH), Rep G ad σ h → k6 v2 v3 v4 v6 σ = some o → RW G mX0_thicknessOn (rm 1 0 0) (qJ G ad o) xN 0 0 6 [(0, .ref (ad 25)), (1, .ref (ad 10)), (2, .int v2), (3, .int v3), (4, .long v4), (6, .int v6)] [] h) (hk29 : ∀ (v2 : Int32) (v3 : Int32) (v4 : Int64) (v6 : Int32) (v7 : Int32) (v8 : Int32) (σ : rS) (h : rH), Rep G ad σ h → k29 v2 v3 v4 v6 v7 v8 σ = some o → RW G mX0_thicknessOn (rm 1 0 0) (qJ G ad o) xN 0 0 29 [(0, .ref (ad 25)), (1, .ref (ad 10)), (2, .int v2), (3, .int v3), (4, .long v4), (6, .int v6), (7, .int v7), (8, .int v8)] [] h) (v2 : Int32) (v3 : Int32) (v4 : Int64) (v6 : Int32) (v7 : Int32) (v8 : Int32) (σ : rS) (h : rH) (hr : Rep G ad σ h) (hf : jX0_thicknessOn_66 k6 k29 v2 v3 v4 v6 v7 v8 σ = some o) : RW G mX0_thicknessOn (rm 1 0 0) (qJ G ad o) xN 0 0 66 [(0, .ref (ad 25)), (1, .ref (ad 10)), (2, .int v2), (3, .int v3), (4, .long v4), (6, .int v6), (7, .int v7), (8, .int v8)] [] h := by
  unfold jX0_thicknessOn_66 at hf
  refine rw_iinc (v := v8 + 1) (lv2 := [(8, .int (v8 + 1)), (0, .ref (ad 25)), (1, .ref (ad 10)), (2, .int v2), (3, .int v3), (4, .long v4), (6, .int v6), (7, .int v7)]) dX0_thicknessOn_66 7 rfl rfl (by decide) rfl ?_
  refine nmL hf (fun x13 hf => ?_)
  refine rw_goto (tgt := 29) dX0_thicknessOn_69 (by decide) ?_
  refine rw_sub [1, 2, 3, 4, 5, 6, 7, 0] rfl ?_
  exact hk29 v2 v3 v4 v6 v7 x13 σ _ hr hf
def lX0_thicknessOn_29 (k6 : Int32 → Int32 → Int64 → Int32 → rS → Option (Int64 × rS)) : Nat → Int32 → Int32 → Int64 → Int32 → Int32 → Int32 → rS → Option (Int64 × rS)
  | 0, _, _, _, _, _, _, _ => none
  | n + 1, v2, v3, v4, v6, v7, v8, σ => (fX11_slotOf (v7 + 1) 0 σ).bind fun q6 => if q6.1 ≤ v8 then vI (v6 + 1) fun x8 => k6 v2 v3 v4 x8 q6.2 else if inB v8 192 then (if (q6.2.2.2.1 26 v8.toNatClampNeg) = v3 then if inB v8 192 then vJ (v4 + ((q6.2.2.2.1 32 v8.toNatClampNeg).toInt64)) fun x12 => jX0_thicknessOn_66 k6 (lX0_thicknessOn_29 k6 n) v2 v3 x12 v6 v7 v8 q6.2 else none else jX0_thicknessOn_66 k6 (lX0_thicknessOn_29 k6 n) v2 v3 v4 v6 v7 v8 q6.2) else none
set_option maxHeartbeats 4000000 in
theorem t_lX0_thicknessOn_29 {G : rG} {ad : Nat → Nat} {o : (Int64 × rS)} (k6 : Int32 → Int32 → Int64 → Int32 → rS → Option (Int64 × rS)) (hk6 : ∀ (v2 : Int32) (v3 : Int32) (v4 : Int64) (v6 : Int32) (σ : rS) (h : rH), Rep G ad σ h → k6 v2 v3 v4 v6 σ = some o → RW G mX0_thicknessOn (rm 1 0 0) (qJ G ad o) xN 0 0 6 [(0, .ref (ad 25)), (1, .ref (ad 10)), (2, .int v2), (3, .int v3), (4, .long v4), (6, .int v6)] [] h) : ∀ (n : Nat) (v2 : Int32) (v3 : Int32) (v4 : Int64) (v6 : Int32) (v7 : Int32) (v8 : Int32) (σ : rS) (h : rH), Rep G ad σ h → lX0_thicknessOn_29 k6 n v2 v3 v4 v6 v7 v8 σ = some o → RW G mX0_thicknessOn (rm 1 0 0) (qJ G ad o) xN 0 0 29 [(0, .ref (ad 25)), (1, .ref (ad 10)), (2, .int v2), (3, .int v3), (4, .long v4), (6, .int v6), (7, .int v7), (8, .int v8)] [] h := by
  intro n
  induction n with
  | zero =>
    intro v2 v3 v4 v6 v7 v8 σ h hr hf
    rw [lX0_thicknessOn_29] at hf
    cases hf
  | succ n ih =>
    intro v2 v3 v4 v6 v7 v8 σ h hr hf
    rw [lX0_thicknessOn_29] at hf
    refine rw_iload dX0_thicknessOn_29 7 rfl ?_
    refine rw_iload dX0_thicknessOn_31 6 rfl ?_
    refine rw_iconst (v := 1) dX0_thicknessOn_33 (by decide) ?_
    refine rw_iadd dX0_thicknessOn_34 ?_
    refine rw_iconst (v := 0) dX0_thicknessOn_35 (by decide) ?_
    obtain ⟨q6, hq6, hf⟩ := bnd hf
    refine kSN_I (ad := ad) (As := [.int (v7 + 1), .int 0]) (st := [.int v8]) dX0_thicknessOn_36 calX11_slotOf wm661 wm662 rfl rfl (Nat.le_of_ble_eq_true rfl) ⟨⟨by decide, by decide⟩, by decide, by decide⟩ (cmX11_slotOf hr hq6) (fun h hr => ?_)
    refine rw_icmp_ge (tgt := 72) dX0_thicknessOn_39 (by decide) (fun c7 => ?_) (fun c7 => ?_)
    · rw [if_pos c7] at hf
      refine rw_iinc (v := v6 + 1) (lv2 := [(6, .int (v6 + 1)), (0, .ref (ad 25)), (1, .ref (ad 10)), (2, .int v2), (3, .int v3), (4, .long v4), (7, .int v7), (8, .int v8)]) dX0_thicknessOn_72 5 rfl rfl (by decide) rfl ?_
      refine nmL hf (fun x8 hf => ?_)
      refine rw_goto (tgt := 6) dX0_thicknessOn_75 (by decide) ?_
      refine rw_sub [1, 2, 3, 4, 5, 0] rfl ?_
      exact hk6 v2 v3 v4 x8 q6.2 _ hr hf
    · rw [if_neg c7] at hf
      refine rw_aload_n dX0_thicknessOn_42 0 rfl rfl ?_
      refine sg_25_0 hr dX0_thicknessOn_43 fl314 ?_
      refine rw_iload dX0_thicknessOn_46 7 rfl ?_
      obtain ⟨hi9, hf⟩ := grd hf
      refine sl_26 hr dX0_thicknessOn_48 (inB_in hi9) ?_
      refine rw_iload_n dX0_thicknessOn_49 3 rfl rfl ?_
      refine rw_icmp_ne (tgt := 66) dX0_thicknessOn_50 (by decide) (fun c10 => ?_) (fun c10 => ?_)
      · rw [if_neg c10] at hf
        exact t_jX0_thicknessOn_66 (ad := ad) (G := G) k6 (lX0_thicknessOn_29 k6 n) hk6 ih v2 v3 v4 v6 v7 v8 q6.2 _ hr hf
      · rw [if_pos c10] at hf
        refine rw_lload dX0_thicknessOn_53 4 rfl ?_
        refine rw_aload_n dX0_thicknessOn_55 0 rfl rfl ?_
        refine sg_25_7 hr dX0_thicknessOn_56 fl327 ?_
        refine rw_iload dX0_thicknessOn_59 7 rfl ?_
        obtain ⟨hi11, hf⟩ := grd hf
        refine sl_32 hr dX0_thicknessOn_61 (inB_in hi11) ?_
        refine rw_i2l dX0_thicknessOn_62 ?_
        refine rw_ladd dX0_thicknessOn_63 ?_
        refine nmJ hf (fun x12 hf => ?_)
        refine rw_lstore (lv2 := [(4, .long x12), (0, .ref (ad 25)), (1, .ref (ad 10)), (2, .int v2), (3, .int v3), (6, .int v6), (7, .int v7), (8, .int v8)]) dX0_thicknessOn_64 (by decide) rfl ?_
        refine rw_sub [1, 2, 3, 4, 0, 5, 6, 7] rfl ?_
        exact t_jX0_thicknessOn_66 (ad := ad) (G := G) k6 (lX0_thicknessOn_29 k6 n) hk6 ih v2 v3 x12 v6 v7 v8 q6.2 _ hr hf
def lX0_thicknessOn_6  : Nat → Int32 → Int32 → Int64 → Int32 → rS → Option (Int64 × rS)
  | 0, _, _, _, _, _ => none
  | n + 1, v2, v3, v4, v6, σ => if 3 ≤ v6 then some (v4, σ) else (fX6_cornerOf v2 v6 σ).bind fun q2 => vI q2.1 fun x3 => (fX11_slotOf x3 0 q2.2).bind fun q4 => vI q4.1 fun x5 => lX0_thicknessOn_29 (lX0_thicknessOn_6 n) 1000 v2 v3 v4 v6 x3 x5 q4.2
set_option maxHeartbeats 4000000 in
theorem t_lX0_thicknessOn_6 {G : rG} {ad : Nat → Nat} {o : (Int64 × rS)}   : ∀ (n : Nat) (v2 : Int32) (v3 : Int32) (v4 : Int64) (v6 : Int32) (σ : rS) (h : rH), Rep G ad σ h → lX0_thicknessOn_6  n v2 v3 v4 v6 σ = some o → RW G mX0_thicknessOn (rm 1 0 0) (qJ G ad o) xN 0 0 6 [(0, .ref (ad 25)), (1, .ref (ad 10)), (2, .int v2), (3, .int v3), (4, .long v4), (6, .int v6)] [] h := by
  intro n
  induction n with
  | zero =>
    intro v2 v3 v4 v6 σ h hr hf
    rw [lX0_thicknessOn_6] at hf
    cases hf
  | succ n ih =>
    intro v2 v3 v4 v6 σ h hr hf
    rw [lX0_thicknessOn_6] at hf
    refine rw_iload dX0_thicknessOn_6 5 rfl ?_
    refine rw_iconst (v := 3) dX0_thicknessOn_8 (by decide) ?_
    refine rw_icmp_ge (tgt := 78) dX0_thicknessOn_9 (by decide) (fun c1 => ?_) (fun c1 => ?_)
    · rw [if_pos c1] at hf
      refine rw_lload dX0_thicknessOn_78 4 rfl ?_
      replace hf := Option.some.inj hf
      subst hf
      exact rw_lreturn dX0_thicknessOn_80 rfl ⟨rfl, hr⟩ (by decide) (by decide)
    · rw [if_neg c1] at hf
      refine rw_aload_n dX0_thicknessOn_12 1 rfl rfl ?_
      refine rw_iload_n dX0_thicknessOn_13 2 rfl rfl ?_
      refine rw_iload dX0_thicknessOn_14 5 rfl ?_
      obtain ⟨q2, hq2, hf⟩ := bnd hf
      refine kV_I (ad := ad) (As := [.int v2, .int v6]) (st := []) dX0_thicknessOn_16 calX6_cornerOf wm1141 wm986 wm987 rfl rfl (rc_10 hr) (ci := 6) (by decide) rfl rfl (Nat.le_of_ble_eq_true rfl) ⟨⟨by decide, by decide⟩, by decide, by decide⟩ (cmX6_cornerOf hr hq2) (fun h hr => ?_)
      refine nmI hf (fun x3 hf => ?_)
      refine rw_istore (lv2 := [(7, .int x3), (0, .ref (ad 25)), (1, .ref (ad 10)), (2, .int v2), (3, .int v3), (4, .long v4), (6, .int v6)]) dX0_thicknessOn_19 (by decide) rfl ?_
      refine rw_iload dX0_thicknessOn_21 0 rfl ?_
      refine rw_iconst (v := 0) dX0_thicknessOn_23 (by decide) ?_
      obtain ⟨q4, hq4, hf⟩ := bnd hf
      refine kSN_I (ad := ad) (As := [.int x3, .int 0]) (st := []) dX0_thicknessOn_24 calX11_slotOf wm661 wm662 rfl rfl (Nat.le_of_ble_eq_true rfl) ⟨⟨by decide, by decide⟩, by decide, by decide⟩ (cmX11_slotOf hr hq4) (fun h hr => ?_)
      refine nmI hf (fun x5 hf => ?_)
      refine rw_istore (lv2 := [(8, .int x5), (7, .int x3), (0, .ref (ad 25)), (1, .ref (ad 10)), (2, .int v2), (3, .int v3), (4, .long v4), (6, .int v6)]) dX0_thicknessOn_27 (by decide) rfl ?_
      refine rw_sub [2, 3, 4, 5, 6, 7, 1, 0] rfl ?_
      exact t_lX0_thicknessOn_29 (ad := ad) (G := G) (lX0_thicknessOn_6 n) ih 1000 v2 v3 v4 v6 x3 x5 q4.2 _ hr hf
def fX0_thicknessOn (a1 : Int32) (a2 : Int32) (σ : rS) : Option (Int64 × rS) := lX0_thicknessOn_6 1000 a1 a2 0 0 σ
set_option maxHeartbeats 4000000 in
theorem cmX0_thicknessOn {G : rG} {ad : Nat → Nat} {a1 : Int32} {a2 : Int32} {σ : rS} {h : rH} {o : (Int64 × rS)} (hr : Rep G ad σ h) (hf : fX0_thicknessOn a1 a2 σ = some o) : rMT G mX0_thicknessOn (rm 1 0 0) [.ref (ad 25), .ref (ad 10), .int a1, .int a2] h (qJ G ad o) xN := by
  unfold fX0_thicknessOn at hf
  refine rw_met (by decide +kernel) rfl (Nat.le_of_ble_eq_true rfl) ?_
  show RW G _ _ _ _ 0 0 0 [(0, .ref (ad 25)), (1, .ref (ad 10)), (2, .int a1), (3, .int a2)] [] h
  refine rw_lconst (v := 0) dX0_thicknessOn_0 (by decide) ?_
  refine rw_lstore (lv2 := [(4, .long 0), (0, .ref (ad 25)), (1, .ref (ad 10)), (2, .int a1), (3, .int a2)]) dX0_thicknessOn_1 (by decide) rfl ?_
  refine rw_iconst (v := 0) dX0_thicknessOn_3 (by decide) ?_
  refine rw_istore (lv2 := [(6, .int 0), (4, .long 0), (0, .ref (ad 25)), (1, .ref (ad 10)), (2, .int a1), (3, .int a2)]) dX0_thicknessOn_4 (by decide) rfl ?_
  refine rw_sub [2, 3, 4, 5, 1, 0] rfl ?_
  exact t_lX0_thicknessOn_6 (ad := ad) (G := G)  1000 a1 a2 0 0 σ _ hr hf
def jX0_volumeIn_111 (k38 : Int32 → Int32 → Int32 → Int32 → Int64 → Int32 → rS → Option (Int64 × rS)) (v2 : Int32) (v3 : Int32) (v4 : Int32) (v5 : Int32) (v6 : Int64) (v8 : Int32) (σ : rS) : Option (Int64 × rS) := vI (v8 + 1) fun x17 => k38 v2 v3 v4 v5 v6 x17 σ
set_option maxHeartbeats 4000000 in
theorem t_jX0_volumeIn_111 {G : rG} {ad : Nat → Nat} {o : (Int64 × rS)} (k38 : Int32 → Int32 → Int32 → Int32 → Int64 → Int32 → rS → Option (Int64 × rS)) (hk38 : ∀ (v2 : Int32) (v3 : Int32) (v4 : Int32) (v5 : Int32) (v6 : Int64) (v8 : Int32) (σ : rS) (h : rH), Rep G ad σ h → k38 v2 v3 v4 v5 v6 v8 σ = some o → RW G mX0_volumeIn (rm 2 0 0) (qJ G ad o) xN 0 0 38 [(0, .ref (ad 25)), (1, .ref (ad 10)), (2, .int v2), (3, .int v3), (4, .int v4), (5, .int v5), (6, .long v6), (8, .int v8)] [] h) (v2 : Int32) (v3 : Int32) (v4 : Int32) (v5 : Int32) (v6 : Int64) (v8 : Int32) (σ : rS) (h : rH) (hr : Rep G ad σ h) (hf : jX0_volumeIn_111 k38 v2 v3 v4 v5 v6 v8 σ = some o) : RW G mX0_volumeIn (rm 2 0 0) (qJ G ad o) xN 0 0 111 [(0, .ref (ad 25)), (1, .ref (ad 10)), (2, .int v2), (3, .int v3), (4, .int v4), (5, .int v5), (6, .long v6), (8, .int v8)] [] h := by
  unfold jX0_volumeIn_111 at hf
  refine rw_iinc (v := v8 + 1) (lv2 := [(8, .int (v8 + 1)), (0, .ref (ad 25)), (1, .ref (ad 10)), (2, .int v2), (3, .int v3), (4, .int v4), (5, .int v5), (6, .long v6)]) dX0_volumeIn_111 7 rfl rfl (by decide) rfl ?_
  refine nmL hf (fun x17 hf => ?_)
  refine rw_goto (tgt := 38) dX0_volumeIn_114 (by decide) ?_
  refine rw_sub [1, 2, 3, 4, 5, 6, 7, 0] rfl ?_
  exact hk38 v2 v3 v4 v5 v6 x17 σ _ hr hf
def lX0_volumeIn_38  : Nat → Int32 → Int32 → Int32 → Int32 → Int64 → Int32 → rS → Option (Int64 × rS)
  | 0, _, _, _, _, _, _, _ => none
  | n + 1, v2, v3, v4, v5, v6, v8, σ => if (σ.1 25 5) ≤ v8 then some (v6, σ) else if inB v8 192 then vI ((σ.2.2.1 30 v8.toNatClampNeg) &&& v5) fun x7 => if inB v8 192 then (if (σ.2.2.1 27 v8.toNatClampNeg) = v3 then if x7 = 0 then jX0_volumeIn_111 (lX0_volumeIn_38 n) v2 v3 v4 v5 v6 v8 σ else (fJ6_bitCount_0f7a4 x7 σ).bind fun q11 => (fX0_shareOf q11.1 v4 q11.2).bind fun q12 => vJ q12.1 fun x13 => if inB v2 27 then (fX0_thicknessOn v2 v8 q12.2).bind fun q15 => vJ (v6 + ((((q12.2.2.2.1 14 v2.toNatClampNeg).toInt64) * x13) * q15.1)) fun x16 => jX0_volumeIn_111 (lX0_volumeIn_38 n) v2 v3 v4 v5 x16 v8 q15.2 else none else jX0_volumeIn_111 (lX0_volumeIn_38 n) v2 v3 v4 v5 v6 v8 σ) else none else none
set_option maxHeartbeats 4000000 in
theorem t_lX0_volumeIn_38 {G : rG} {ad : Nat → Nat} {o : (Int64 × rS)}   : ∀ (n : Nat) (v2 : Int32) (v3 : Int32) (v4 : Int32) (v5 : Int32) (v6 : Int64) (v8 : Int32) (σ : rS) (h : rH), Rep G ad σ h → lX0_volumeIn_38  n v2 v3 v4 v5 v6 v8 σ = some o → RW G mX0_volumeIn (rm 2 0 0) (qJ G ad o) xN 0 0 38 [(0, .ref (ad 25)), (1, .ref (ad 10)), (2, .int v2), (3, .int v3), (4, .int v4), (5, .int v5), (6, .long v6), (8, .int v8)] [] h := by
  intro n
  induction n with
  | zero =>
    intro v2 v3 v4 v5 v6 v8 σ h hr hf
    rw [lX0_volumeIn_38] at hf
    cases hf
  | succ n ih =>
    intro v2 v3 v4 v5 v6 v8 σ h hr hf
    rw [lX0_volumeIn_38] at hf
    refine rw_iload dX0_volumeIn_38 7 rfl ?_
    refine rw_aload_n dX0_volumeIn_40 0 rfl rfl ?_
    refine sg_25_5 hr dX0_volumeIn_41 fl324 ?_
    refine rw_icmp_ge (tgt := 117) dX0_volumeIn_44 (by decide) (fun c5 => ?_) (fun c5 => ?_)
    · rw [if_pos c5] at hf
      refine rw_lload dX0_volumeIn_117 6 rfl ?_
      replace hf := Option.some.inj hf
      subst hf
      exact rw_lreturn dX0_volumeIn_119 rfl ⟨rfl, hr⟩ (by decide) (by decide)
    · rw [if_neg c5] at hf
      refine rw_aload_n dX0_volumeIn_47 0 rfl rfl ?_
      refine sg_25_4 hr dX0_volumeIn_48 fl322 ?_
      refine rw_iload dX0_volumeIn_51 7 rfl ?_
      obtain ⟨hi6, hf⟩ := grd hf
      refine sl_30 hr dX0_volumeIn_53 (inB_in hi6) ?_
      refine rw_iload dX0_volumeIn_54 5 rfl ?_
      refine rw_iand dX0_volumeIn_56 ?_
      refine nmI hf (fun x7 hf => ?_)
      refine rw_istore (lv2 := [(9, .int x7), (0, .ref (ad 25)), (1, .ref (ad 10)), (2, .int v2), (3, .int v3), (4, .int v4), (5, .int v5), (6, .long v6), (8, .int v8)]) dX0_volumeIn_57 (by decide) rfl ?_
      refine rw_aload_n dX0_volumeIn_59 1 rfl rfl ?_
      refine sg_25_1 hr dX0_volumeIn_60 fl316 ?_
      refine rw_iload dX0_volumeIn_63 8 rfl ?_
      obtain ⟨hi8, hf⟩ := grd hf
      refine sl_27 hr dX0_volumeIn_65 (inB_in hi8) ?_
      refine rw_iload_n dX0_volumeIn_66 4 rfl rfl ?_
      refine rw_icmp_ne (tgt := 111) dX0_volumeIn_67 (by decide) (fun c9 => ?_) (fun c9 => ?_)
      · rw [if_neg c9] at hf
        refine rw_sub [1, 2, 3, 4, 5, 6, 7, 8] rfl ?_
        exact t_jX0_volumeIn_111 (ad := ad) (G := G) (lX0_volumeIn_38 n) ih v2 v3 v4 v5 v6 v8 σ _ hr hf
      · rw [if_pos c9] at hf
        refine rw_iload dX0_volumeIn_70 0 rfl ?_
        refine rw_if_eq (tgt := 111) dX0_volumeIn_72 (by decide) (fun c10 => ?_) (fun c10 => ?_)
        · rw [if_pos c10] at hf
          refine rw_sub [1, 2, 3, 4, 5, 6, 7, 8] rfl ?_
          exact t_jX0_volumeIn_111 (ad := ad) (G := G) (lX0_volumeIn_38 n) ih v2 v3 v4 v5 v6 v8 σ _ hr hf
        · rw [if_neg c10] at hf
          refine rw_iload dX0_volumeIn_75 0 rfl ?_
          obtain ⟨q11, hq11, hf⟩ := bnd hf
          refine kS_I (ad := ad) (As := [.int x7]) (st := []) dX0_volumeIn_77 calJ6_bitCount_0f7a4 wm1142 wm1049 rfl rfl (Nat.le_of_ble_eq_true rfl) ⟨⟨by decide, by decide⟩, by decide, by decide⟩ (cmJ6_bitCount_0f7a4 hr hq11) (fun h hr => ?_)
          refine rw_iload dX0_volumeIn_80 5 rfl ?_
          obtain ⟨q12, hq12, hf⟩ := bnd hf
          refine kS_J (ad := ad) (As := [.int q11.1, .int v4]) (st := []) dX0_volumeIn_82 calX0_shareOf wm1143 wm1144 rfl rfl (Nat.le_of_ble_eq_true rfl) ⟨⟨by decide, by decide⟩, by decide, by decide⟩ (cmX0_shareOf hr hq12) (fun h hr => ?_)
          refine nmJ hf (fun x13 hf => ?_)
          refine rw_lstore (lv2 := [(10, .long x13), (9, .int x7), (0, .ref (ad 25)), (1, .ref (ad 10)), (2, .int v2), (3, .int v3), (4, .int v4), (5, .int v5), (6, .long v6), (8, .int v8)]) dX0_volumeIn_85 (by decide) rfl ?_
          refine rw_lload dX0_volumeIn_87 8 rfl ?_
          refine rw_aload_n dX0_volumeIn_89 3 rfl rfl ?_
          refine sg_10_3 hr dX0_volumeIn_90 fl238 ?_
          refine rw_iload_n dX0_volumeIn_93 4 rfl rfl ?_
          obtain ⟨hi14, hf⟩ := grd hf
          refine sl_14 hr dX0_volumeIn_94 (inB_in hi14) ?_
          refine rw_i2l dX0_volumeIn_95 ?_
          refine rw_lload dX0_volumeIn_96 0 rfl ?_
          refine rw_lmul dX0_volumeIn_98 ?_
          refine rw_aload_n dX0_volumeIn_99 2 rfl rfl ?_
          refine rw_aload_n dX0_volumeIn_100 3 rfl rfl ?_
          refine rw_iload_n dX0_volumeIn_101 4 rfl rfl ?_
          refine rw_iload dX0_volumeIn_102 9 rfl ?_
          obtain ⟨q15, hq15, hf⟩ := bnd hf
          refine kV_J (ad := ad) (As := [.ref (ad 10), .int v2, .int v8]) (st := [.long (((q12.2.2.2.1 14 v2.toNatClampNeg).toInt64) * x13), .long v6]) dX0_volumeIn_104 calX0_thicknessOn wm1147 wm1149 wm30 rfl rfl (rc_25 hr) (ci := 1) (by decide) rfl rfl (Nat.le_of_ble_eq_true rfl) ⟨⟨by decide, by decide⟩, by decide, by decide⟩ (cmX0_thicknessOn hr hq15) (fun h hr => ?_)
          refine rw_lmul dX0_volumeIn_107 ?_
          refine rw_ladd dX0_volumeIn_108 ?_
          refine nmJ hf (fun x16 hf => ?_)
          refine rw_lstore (lv2 := [(6, .long x16), (10, .long x13), (9, .int x7), (0, .ref (ad 25)), (1, .ref (ad 10)), (2, .int v2), (3, .int v3), (4, .int v4), (5, .int v5), (8, .int v8)]) dX0_volumeIn_109 (by decide) rfl ?_
          refine rw_sub [3, 4, 5, 6, 7, 8, 0, 9] rfl ?_
          exact t_jX0_volumeIn_111 (ad := ad) (G := G) (lX0_volumeIn_38 n) ih v2 v3 v4 v5 x16 v8 q15.2 _ hr hf
def lX0_volumeIn_6  : Nat → Int32 → Int32 → Int32 → Int32 → Int32 → rS → Option (Int64 × rS)
  | 0, _, _, _, _, _, _ => none
  | n + 1, v2, v3, v4, v5, v6, σ => if 3 ≤ v6 then lX0_volumeIn_38 1000 v2 v3 v4 v5 0 0 σ else (fX6_cornerOf v2 v6 σ).bind fun q2 => vI (v5 ||| (1 <<< (q2.1 &&& 31))) fun x3 => vI (v6 + 1) fun x4 => (lX0_volumeIn_6 n) v2 v3 v4 x3 x4 q2.2
set_option maxHeartbeats 4000000 in
theorem t_lX0_volumeIn_6 {G : rG} {ad : Nat → Nat} {o : (Int64 × rS)}   : ∀ (n : Nat) (v2 : Int32) (v3 : Int32) (v4 : Int32) (v5 : Int32) (v6 : Int32) (σ : rS) (h : rH), Rep G ad σ h → lX0_volumeIn_6  n v2 v3 v4 v5 v6 σ = some o → RW G mX0_volumeIn (rm 2 0 0) (qJ G ad o) xN 0 0 6 [(0, .ref (ad 25)), (1, .ref (ad 10)), (2, .int v2), (3, .int v3), (4, .int v4), (5, .int v5), (6, .int v6)] [] h := by
  intro n
  induction n with
  | zero =>
    intro v2 v3 v4 v5 v6 σ h hr hf
    rw [lX0_volumeIn_6] at hf
    cases hf
  | succ n ih =>
    intro v2 v3 v4 v5 v6 σ h hr hf
    rw [lX0_volumeIn_6] at hf
    refine rw_iload dX0_volumeIn_6 6 rfl ?_
    refine rw_iconst (v := 3) dX0_volumeIn_8 (by decide) ?_
    refine rw_icmp_ge (tgt := 32) dX0_volumeIn_9 (by decide) (fun c1 => ?_) (fun c1 => ?_)
    · rw [if_pos c1] at hf
      refine rw_lconst (v := 0) dX0_volumeIn_32 (by decide) ?_
      refine rw_lstore (lv2 := [(6, .long 0), (0, .ref (ad 25)), (1, .ref (ad 10)), (2, .int v2), (3, .int v3), (4, .int v4), (5, .int v5)]) dX0_volumeIn_33 (by decide) rfl ?_
      refine rw_iconst (v := 0) dX0_volumeIn_35 (by decide) ?_
      refine rw_istore (lv2 := [(8, .int 0), (6, .long 0), (0, .ref (ad 25)), (1, .ref (ad 10)), (2, .int v2), (3, .int v3), (4, .int v4), (5, .int v5)]) dX0_volumeIn_36 (by decide) rfl ?_
      refine rw_sub [2, 3, 4, 5, 6, 7, 1, 0] rfl ?_
      exact t_lX0_volumeIn_38 (ad := ad) (G := G)  1000 v2 v3 v4 v5 0 0 σ _ hr hf
    · rw [if_neg c1] at hf
      refine rw_iload dX0_volumeIn_12 5 rfl ?_
      refine rw_iconst (v := 1) dX0_volumeIn_14 (by decide) ?_
      refine rw_aload_n dX0_volumeIn_15 1 rfl rfl ?_
      refine rw_iload_n dX0_volumeIn_16 2 rfl rfl ?_
      refine rw_iload dX0_volumeIn_17 6 rfl ?_
      obtain ⟨q2, hq2, hf⟩ := bnd hf
      refine kV_I (ad := ad) (As := [.int v2, .int v6]) (st := [.int 1, .int v5]) dX0_volumeIn_19 calX6_cornerOf wm1141 wm986 wm987 rfl rfl (rc_10 hr) (ci := 6) (by decide) rfl rfl (Nat.le_of_ble_eq_true rfl) ⟨⟨by decide, by decide⟩, by decide, by decide⟩ (cmX6_cornerOf hr hq2) (fun h hr => ?_)
      refine rw_ishl dX0_volumeIn_22 ?_
      refine rw_ior dX0_volumeIn_23 ?_
      refine nmI hf (fun x3 hf => ?_)
      refine rw_istore (lv2 := [(5, .int x3), (0, .ref (ad 25)), (1, .ref (ad 10)), (2, .int v2), (3, .int v3), (4, .int v4), (6, .int v6)]) dX0_volumeIn_24 (by decide) rfl ?_
      refine rw_iinc (v := v6 + 1) (lv2 := [(6, .int (v6 + 1)), (5, .int x3), (0, .ref (ad 25)), (1, .ref (ad 10)), (2, .int v2), (3, .int v3), (4, .int v4)]) dX0_volumeIn_26 6 rfl rfl (by decide) rfl ?_
      refine nmL hf (fun x4 hf => ?_)
      refine rw_goto (tgt := 6) dX0_volumeIn_29 (by decide) ?_
      refine rw_sub [2, 3, 4, 5, 6, 1, 0] rfl ?_
      exact ih v2 v3 v4 x3 x4 q2.2 _ hr hf
def fX0_volumeIn (a1 : Int32) (a2 : Int32) (a3 : Int32) (σ : rS) : Option (Int64 × rS) := lX0_volumeIn_6 1000 a1 a2 a3 0 0 σ
set_option maxHeartbeats 4000000 in
theorem cmX0_volumeIn {G : rG} {ad : Nat → Nat} {a1 : Int32} {a2 : Int32} {a3 : Int32} {σ : rS} {h : rH} {o : (Int64 × rS)} (hr : Rep G ad σ h) (hf : fX0_volumeIn a1 a2 a3 σ = some o) : rMT G mX0_volumeIn (rm 2 0 0) [.ref (ad 25), .ref (ad 10), .int a1, .int a2, .int a3] h (qJ G ad o) xN := by
  unfold fX0_volumeIn at hf
  refine rw_met (by decide +kernel) rfl (Nat.le_of_ble_eq_true rfl) ?_
  show RW G _ _ _ _ 0 0 0 [(0, .ref (ad 25)), (1, .ref (ad 10)), (2, .int a1), (3, .int a2), (4, .int a3)] [] h
  refine rw_iconst (v := 0) dX0_volumeIn_0 (by decide) ?_
  refine rw_istore (lv2 := [(5, .int 0), (0, .ref (ad 25)), (1, .ref (ad 10)), (2, .int a1), (3, .int a2), (4, .int a3)]) dX0_volumeIn_1 (by decide) rfl ?_
  refine rw_iconst (v := 0) dX0_volumeIn_3 (by decide) ?_
  refine rw_istore (lv2 := [(6, .int 0), (5, .int 0), (0, .ref (ad 25)), (1, .ref (ad 10)), (2, .int a1), (3, .int a2), (4, .int a3)]) dX0_volumeIn_4 (by decide) rfl ?_
  refine rw_sub [2, 3, 4, 5, 6, 1, 0] rfl ?_
  exact t_lX0_volumeIn_6 (ad := ad) (G := G)  1000 a1 a2 a3 0 0 σ _ hr hf
def fX7_moveTo (n0 : Nat) (a0 : Int32) (a1 : Int32) (σ : rS) : Option (Unit × rS) := if isPl n0 then vS (uI σ n0 0 a0) fun σ2 => if isPl n0 then vS (uI σ2 n0 1 a1) fun σ4 => some ((), σ4) else none else none
set_option maxHeartbeats 4000000 in
theorem cmX7_moveTo {G : rG} {ad : Nat → Nat} {n0 : Nat} {a0 : Int32} {a1 : Int32} {σ : rS} {h : rH} {o : (Unit × rS)} (hr : Rep G ad σ h) (hf : fX7_moveTo n0 a0 a1 σ = some o) : rMT G mX7_moveTo (rm 0 0 0) [.ref (ad n0), .int a0, .int a1] h (qV G ad o) xN := by
  unfold fX7_moveTo at hf
  refine rw_met (by decide +kernel) rfl (Nat.le_of_ble_eq_true rfl) ?_
  show RW G _ _ _ _ 0 0 0 [(0, .ref (ad n0)), (1, .int a0), (2, .int a1)] [] h
  refine rw_aload_n dX7_moveTo_0 0 rfl rfl ?_
  refine rw_iload_n dX7_moveTo_1 1 rfl rfl ?_
  obtain ⟨hp1, hf⟩ := grd hf
  refine sp_Pl_0 hr dX7_moveTo_2 fl121 hp1 (fun h hr => ?_)
  refine nmS hf hr (fun σ2 hr hf => ?_)
  refine rw_aload_n dX7_moveTo_5 0 rfl rfl ?_
  refine rw_iload_n dX7_moveTo_6 2 rfl rfl ?_
  obtain ⟨hp3, hf⟩ := grd hf
  refine sp_Pl_1 hr dX7_moveTo_7 fl125 hp3 (fun h hr => ?_)
  refine nmS hf hr (fun σ4 hr hf => ?_)
  replace hf := Option.some.inj hf
  subst hf
  exact rw_return dX7_moveTo_10 rfl ⟨rfl, hr⟩ (by decide) (by decide)
def fX1_begin (n0 : Nat) (a0 : Int32) (a1 : Int32) (a2 : Int32) (σ : rS) : Option (Unit × rS) := if isBo n0 then if isPl (n0 + 1) then (fX7_moveTo (n0 + 1) a0 a1 σ).bind fun q2 => if isBo n0 then vS (uI q2.2 n0 3 a2) fun σ5 => if isBo n0 then vS (uI σ5 n0 4 0) fun σ7 => some ((), σ7) else none else none else none else none
set_option maxHeartbeats 4000000 in
theorem cmX1_begin {G : rG} {ad : Nat → Nat} {n0 : Nat} {a0 : Int32} {a1 : Int32} {a2 : Int32} {σ : rS} {h : rH} {o : (Unit × rS)} (hr : Rep G ad σ h) (hf : fX1_begin n0 a0 a1 a2 σ = some o) : rMT G mX1_begin (rm 1 0 0) [.ref (ad n0), .int a0, .int a1, .int a2] h (qV G ad o) xN := by
  unfold fX1_begin at hf
  refine rw_met (by decide +kernel) rfl (Nat.le_of_ble_eq_true rfl) ?_
  show RW G _ _ _ _ 0 0 0 [(0, .ref (ad n0)), (1, .int a0), (2, .int a1), (3, .int a2)] [] h
  refine rw_aload_n dX1_begin_0 0 rfl rfl ?_
  obtain ⟨hp1, hf⟩ := grd hf
  refine sg_Bo_0 hr dX1_begin_1 fl134 hp1 ?_
  refine rw_iload_n dX1_begin_4 1 rfl rfl ?_
  refine rw_iload_n dX1_begin_5 2 rfl rfl ?_
  obtain ⟨hp3, hf⟩ := grd hf
  obtain ⟨q2, hq2, hf⟩ := bnd hf
  refine kV_V (ad := ad) (As := [.int a0, .int a1]) (st := []) dX1_begin_6 calX7_moveTo wm749 wm504 wm505 rfl rfl (rc_Pl hr hp3) (ci := 7) (by decide) rfl rfl (Nat.le_of_ble_eq_true rfl) ⟨⟨by decide, by decide⟩, by decide, by decide⟩ (cmX7_moveTo hr hq2) (fun h hr => ?_)
  refine rw_aload_n dX1_begin_9 0 rfl rfl ?_
  refine rw_iload_n dX1_begin_10 3 rfl rfl ?_
  obtain ⟨hp4, hf⟩ := grd hf
  refine sp_Bo_3 hr dX1_begin_11 fl145 hp4 (fun h hr => ?_)
  refine nmS hf hr (fun σ5 hr hf => ?_)
  refine rw_aload_n dX1_begin_14 0 rfl rfl ?_
  refine rw_iconst (v := 0) dX1_begin_15 (by decide) ?_
  obtain ⟨hp6, hf⟩ := grd hf
  refine sp_Bo_4 hr dX1_begin_16 fl147 hp6 (fun h hr => ?_)
  refine nmS hf hr (fun σ7 hr hf => ?_)
  replace hf := Option.some.inj hf
  subst hf
  exact rw_return dX1_begin_19 rfl ⟨rfl, hr⟩ (by decide) (by decide)
def jX1_addLayer_39   (σ : rS) : Option (Unit × rS) := some ((), σ)
set_option maxHeartbeats 4000000 in
theorem t_jX1_addLayer_39 {G : rG} {ad : Nat → Nat} {o : (Unit × rS)}    (σ : rS) (h : rH) (hr : Rep G ad σ h) (hf : jX1_addLayer_39   σ = some o) : RW G mX1_addLayer (rm 0 0 0) (qV G ad o) xN 0 0 39 [] [] h := by
  unfold jX1_addLayer_39 at hf
  replace hf := Option.some.inj hf
  subst hf
  exact rw_return dX1_addLayer_39 rfl ⟨rfl, hr⟩ (by decide) (by decide)
def fX1_addLayer (n0 : Nat) (a0 : Int32) (a1 : Int32) (σ : rS) : Option (Unit × rS) := if isBo n0 then (if 12 ≤ (σ.1 n0 4) then jX1_addLayer_39 σ else if isBo n0 then if isBo n0 then if isKi (n0 + 2) then if inB (σ.1 n0 4) 12 then vS (uA σ (n0 + 2) (σ.1 n0 4).toNatClampNeg a0) fun σ7 => if isBo n0 then if isBo n0 then if isTh (n0 + 3) then if inB (σ7.1 n0 4) 12 then vS (uA σ7 (n0 + 3) (σ7.1 n0 4).toNatClampNeg a1) fun σ12 => if isBo n0 then if isBo n0 then vS (uI σ12 n0 4 ((σ12.1 n0 4) + 1)) fun σ15 => jX1_addLayer_39 σ15 else none else none else none else none else none else none else none else none else none else none) else none
set_option maxHeartbeats 4000000 in
theorem cmX1_addLayer {G : rG} {ad : Nat → Nat} {n0 : Nat} {a0 : Int32} {a1 : Int32} {σ : rS} {h : rH} {o : (Unit × rS)} (hr : Rep G ad σ h) (hf : fX1_addLayer n0 a0 a1 σ = some o) : rMT G mX1_addLayer (rm 0 0 0) [.ref (ad n0), .int a0, .int a1] h (qV G ad o) xN := by
  unfold fX1_addLayer at hf
  refine rw_met (by decide +kernel) rfl (Nat.le_of_ble_eq_true rfl) ?_
  show RW G _ _ _ _ 0 0 0 [(0, .ref (ad n0)), (1, .int a0), (2, .int a1)] [] h
  refine rw_aload_n dX1_addLayer_0 0 rfl rfl ?_
  obtain ⟨hp1, hf⟩ := grd hf
  refine sg_Bo_4 hr dX1_addLayer_1 fl147 hp1 ?_
  refine rw_bipush (v := 12) dX1_addLayer_4 (by decide) ?_
  refine rw_icmp_ge (tgt := 39) dX1_addLayer_6 (by decide) (fun c2 => ?_) (fun c2 => ?_)
  · rw [if_pos c2] at hf
    refine rw_sub [] rfl ?_
    exact t_jX1_addLayer_39 (ad := ad) (G := G)  σ _ hr hf
  · rw [if_neg c2] at hf
    refine rw_aload_n dX1_addLayer_9 0 rfl rfl ?_
    obtain ⟨hp3, hf⟩ := grd hf
    refine sg_Bo_1 hr dX1_addLayer_10 fl139 hp3 ?_
    refine rw_aload_n dX1_addLayer_13 0 rfl rfl ?_
    obtain ⟨hp4, hf⟩ := grd hf
    refine sg_Bo_4 hr dX1_addLayer_14 fl147 hp4 ?_
    refine rw_iload_n dX1_addLayer_17 1 rfl rfl ?_
    obtain ⟨hp6, hf⟩ := grd hf
    obtain ⟨hi5, hf⟩ := grd hf
    refine ss_Ki hr dX1_addLayer_18 hp6 (inB_in hi5) (fun h hr => ?_)
    refine nmS hf hr (fun σ7 hr hf => ?_)
    refine rw_aload_n dX1_addLayer_19 0 rfl rfl ?_
    obtain ⟨hp8, hf⟩ := grd hf
    refine sg_Bo_2 hr dX1_addLayer_20 fl142 hp8 ?_
    refine rw_aload_n dX1_addLayer_23 0 rfl rfl ?_
    obtain ⟨hp9, hf⟩ := grd hf
    refine sg_Bo_4 hr dX1_addLayer_24 fl147 hp9 ?_
    refine rw_iload_n dX1_addLayer_27 2 rfl rfl ?_
    obtain ⟨hp11, hf⟩ := grd hf
    obtain ⟨hi10, hf⟩ := grd hf
    refine ss_Th hr dX1_addLayer_28 hp11 (inB_in hi10) (fun h hr => ?_)
    refine nmS hf hr (fun σ12 hr hf => ?_)
    refine rw_aload_n dX1_addLayer_29 0 rfl rfl ?_
    refine rw_dup dX1_addLayer_30 rfl ?_
    obtain ⟨hp13, hf⟩ := grd hf
    refine sg_Bo_4 hr dX1_addLayer_31 fl147 hp13 ?_
    refine rw_iconst (v := 1) dX1_addLayer_34 (by decide) ?_
    refine rw_iadd dX1_addLayer_35 ?_
    obtain ⟨hp14, hf⟩ := grd hf
    refine sp_Bo_4 hr dX1_addLayer_36 fl147 hp14 (fun h hr => ?_)
    refine nmS hf hr (fun σ15 hr hf => ?_)
    refine rw_sub [] rfl ?_
    exact t_jX1_addLayer_39 (ad := ad) (G := G)  σ15 _ hr hf
def jX2_has_17  (s0 : Int32) (σ : rS) : Option (Int32 × rS) := if s0 = 0 ∨ s0 = 1 then some (s0, σ) else none
set_option maxHeartbeats 4000000 in
theorem t_jX2_has_17 {G : rG} {ad : Nat → Nat} {o : (Int32 × rS)}   (s0 : Int32) (σ : rS) (h : rH) (hr : Rep G ad σ h) (hf : jX2_has_17  s0 σ = some o) : RW G mX2_has (rm 0 0 0) (qI G ad o) xN 0 0 17 [] [.int s0] h := by
  unfold jX2_has_17 at hf
  obtain ⟨hz3, hf⟩ := grd hf
  replace hf := Option.some.inj hf
  subst hf
  exact rw_zreturn dX2_has_17 rfl (nar_z hz3) ⟨rfl, hr⟩ (by decide) (by decide)
def jX2_has_16   (σ : rS) : Option (Int32 × rS) := jX2_has_17 0 σ
set_option maxHeartbeats 4000000 in
theorem t_jX2_has_16 {G : rG} {ad : Nat → Nat} {o : (Int32 × rS)}    (σ : rS) (h : rH) (hr : Rep G ad σ h) (hf : jX2_has_16   σ = some o) : RW G mX2_has (rm 0 0 0) (qI G ad o) xN 0 0 16 [] [] h := by
  unfold jX2_has_16 at hf
  refine rw_iconst (v := 0) dX2_has_16 (by decide) ?_
  exact t_jX2_has_17 (ad := ad) (G := G)  0 σ _ hr hf
def fX2_has (a0 : Int32) (σ : rS) : Option (Int32 × rS) := if a0 < 0 then jX2_has_16 σ else if (σ.1 1 1) ≤ a0 then jX2_has_16 σ else jX2_has_17 1 σ
set_option maxHeartbeats 4000000 in
theorem cmX2_has {G : rG} {ad : Nat → Nat} {a0 : Int32} {σ : rS} {h : rH} {o : (Int32 × rS)} (hr : Rep G ad σ h) (hf : fX2_has a0 σ = some o) : rMT G mX2_has (rm 0 0 0) [.ref (ad 1), .int a0] h (qI G ad o) xN := by
  unfold fX2_has at hf
  refine rw_met (by decide +kernel) rfl (Nat.le_of_ble_eq_true rfl) ?_
  show RW G _ _ _ _ 0 0 0 [(0, .ref (ad 1)), (1, .int a0)] [] h
  refine rw_iload_n dX2_has_0 1 rfl rfl ?_
  refine rw_if_lt (tgt := 16) dX2_has_1 (by decide) (fun c1 => ?_) (fun c1 => ?_)
  · rw [if_pos c1] at hf
    refine rw_sub [] rfl ?_
    exact t_jX2_has_16 (ad := ad) (G := G)  σ _ hr hf
  · rw [if_neg c1] at hf
    refine rw_iload_n dX2_has_4 1 rfl rfl ?_
    refine rw_aload_n dX2_has_5 0 rfl rfl ?_
    refine sg_1_1 hr dX2_has_6 fl169 ?_
    refine rw_icmp_ge (tgt := 16) dX2_has_9 (by decide) (fun c2 => ?_) (fun c2 => ?_)
    · rw [if_pos c2] at hf
      refine rw_sub [] rfl ?_
      exact t_jX2_has_16 (ad := ad) (G := G)  σ _ hr hf
    · rw [if_neg c2] at hf
      refine rw_iconst (v := 1) dX2_has_12 (by decide) ?_
      refine rw_goto (tgt := 17) dX2_has_13 (by decide) ?_
      refine rw_sub [] rfl ?_
      exact t_jX2_has_17 (ad := ad) (G := G)  1 σ _ hr hf
def jX2_isFull_19  (s0 : Int32) (σ : rS) : Option (Int32 × rS) := if s0 = 0 ∨ s0 = 1 then some (s0, σ) else none
set_option maxHeartbeats 4000000 in
theorem t_jX2_isFull_19 {G : rG} {ad : Nat → Nat} {o : (Int32 × rS)}   (s0 : Int32) (σ : rS) (h : rH) (hr : Rep G ad σ h) (hf : jX2_isFull_19  s0 σ = some o) : RW G mX2_isFull (rm 0 0 0) (qI G ad o) xN 0 0 19 [] [.int s0] h := by
  unfold jX2_isFull_19 at hf
  obtain ⟨hz2, hf⟩ := grd hf
  replace hf := Option.some.inj hf
  subst hf
  exact rw_zreturn dX2_isFull_19 rfl (nar_z hz2) ⟨rfl, hr⟩ (by decide) (by decide)
def fX2_isFull  (σ : rS) : Option (Int32 × rS) := if ((σ.1 1 1) + (σ.1 1 2)) < 16 then jX2_isFull_19 0 σ else jX2_isFull_19 1 σ
set_option maxHeartbeats 4000000 in
theorem cmX2_isFull {G : rG} {ad : Nat → Nat}  {σ : rS} {h : rH} {o : (Int32 × rS)} (hr : Rep G ad σ h) (hf : fX2_isFull  σ = some o) : rMT G mX2_isFull (rm 0 0 0) [.ref (ad 1)] h (qI G ad o) xN := by
  unfold fX2_isFull at hf
  refine rw_met (by decide +kernel) rfl (Nat.le_of_ble_eq_true rfl) ?_
  show RW G _ _ _ _ 0 0 0 [(0, .ref (ad 1))] [] h
  refine rw_aload_n dX2_isFull_0 0 rfl rfl ?_
  refine sg_1_1 hr dX2_isFull_1 fl169 ?_
  refine rw_aload_n dX2_isFull_4 0 rfl rfl ?_
  refine sg_1_2 hr dX2_isFull_5 fl174 ?_
  refine rw_iadd dX2_isFull_8 ?_
  refine rw_bipush (v := 16) dX2_isFull_9 (by decide) ?_
  refine rw_icmp_lt (tgt := 18) dX2_isFull_11 (by decide) (fun c1 => ?_) (fun c1 => ?_)
  · rw [if_pos c1] at hf
    refine rw_iconst (v := 0) dX2_isFull_18 (by decide) ?_
    refine rw_sub [] rfl ?_
    exact t_jX2_isFull_19 (ad := ad) (G := G)  0 σ _ hr hf
  · rw [if_neg c1] at hf
    refine rw_iconst (v := 1) dX2_isFull_14 (by decide) ?_
    refine rw_goto (tgt := 19) dX2_isFull_15 (by decide) ?_
    refine rw_sub [] rfl ?_
    exact t_jX2_isFull_19 (ad := ad) (G := G)  1 σ _ hr hf
def fX7_squareTo (n0 : Nat) (a0 : Int32) (a1 : Int32) (σ : rS) : Option (Int32 × rS) := if isPl n0 then if isPl n0 then if isPl n0 then if isPl n0 then some ((((a0 - (σ.1 n0 0)) * (a0 - (σ.1 n0 0))) + ((a1 - (σ.1 n0 1)) * (a1 - (σ.1 n0 1)))), σ) else none else none else none else none
set_option maxHeartbeats 4000000 in
theorem cmX7_squareTo {G : rG} {ad : Nat → Nat} {n0 : Nat} {a0 : Int32} {a1 : Int32} {σ : rS} {h : rH} {o : (Int32 × rS)} (hr : Rep G ad σ h) (hf : fX7_squareTo n0 a0 a1 σ = some o) : rMT G mX7_squareTo (rm 0 0 0) [.ref (ad n0), .int a0, .int a1] h (qI G ad o) xN := by
  unfold fX7_squareTo at hf
  refine rw_met (by decide +kernel) rfl (Nat.le_of_ble_eq_true rfl) ?_
  show RW G _ _ _ _ 0 0 0 [(0, .ref (ad n0)), (1, .int a0), (2, .int a1)] [] h
  refine rw_iload_n dX7_squareTo_0 1 rfl rfl ?_
  refine rw_aload_n dX7_squareTo_1 0 rfl rfl ?_
  obtain ⟨hp1, hf⟩ := grd hf
  refine sg_Pl_0 hr dX7_squareTo_2 fl121 hp1 ?_
  refine rw_isub dX7_squareTo_5 ?_
  refine rw_iload_n dX7_squareTo_6 1 rfl rfl ?_
  refine rw_aload_n dX7_squareTo_7 0 rfl rfl ?_
  obtain ⟨hp2, hf⟩ := grd hf
  refine sg_Pl_0 hr dX7_squareTo_8 fl121 hp2 ?_
  refine rw_isub dX7_squareTo_11 ?_
  refine rw_imul dX7_squareTo_12 ?_
  refine rw_iload_n dX7_squareTo_13 2 rfl rfl ?_
  refine rw_aload_n dX7_squareTo_14 0 rfl rfl ?_
  obtain ⟨hp3, hf⟩ := grd hf
  refine sg_Pl_1 hr dX7_squareTo_15 fl125 hp3 ?_
  refine rw_isub dX7_squareTo_18 ?_
  refine rw_iload_n dX7_squareTo_19 2 rfl rfl ?_
  refine rw_aload_n dX7_squareTo_20 0 rfl rfl ?_
  obtain ⟨hp4, hf⟩ := grd hf
  refine sg_Pl_1 hr dX7_squareTo_21 fl125 hp4 ?_
  refine rw_isub dX7_squareTo_24 ?_
  refine rw_imul dX7_squareTo_25 ?_
  refine rw_iadd dX7_squareTo_26 ?_
  replace hf := Option.some.inj hf
  subst hf
  exact rw_ireturn dX7_squareTo_27 rfl ⟨rfl, hr⟩ (by decide) (by decide)
def lX2_numberAt_2  : Nat → Int32 → Int32 → Int32 → rS → Option (Int32 × rS)
  | 0, _, _, _, _ => none
  | n + 1, v1, v2, v3, σ => if ((σ.1 1 1) + (σ.1 1 2)) ≤ v3 then some (((-1)), σ) else if inB v3 16 then if isBo (80 + 4 * v3.toNatClampNeg) then if isPl (80 + 4 * v3.toNatClampNeg + 1) then (fX7_squareTo (80 + 4 * v3.toNatClampNeg + 1) v1 v2 σ).bind fun q4 => (if q4.1 = 0 then some (v3, q4.2) else vI (v3 + 1) fun x7 => (lX2_numberAt_2 n) v1 v2 x7 q4.2) else none else none else none
set_option maxHeartbeats 4000000 in
theorem t_lX2_numberAt_2 {G : rG} {ad : Nat → Nat} {o : (Int32 × rS)}   : ∀ (n : Nat) (v1 : Int32) (v2 : Int32) (v3 : Int32) (σ : rS) (h : rH), Rep G ad σ h → lX2_numberAt_2  n v1 v2 v3 σ = some o → RW G mX2_numberAt (rm 1 0 0) (qI G ad o) xN 0 0 2 [(0, .ref (ad 1)), (1, .int v1), (2, .int v2), (3, .int v3)] [] h := by
  intro n
  induction n with
  | zero =>
    intro v1 v2 v3 σ h hr hf
    rw [lX2_numberAt_2] at hf
    cases hf
  | succ n ih =>
    intro v1 v2 v3 σ h hr hf
    rw [lX2_numberAt_2] at hf
    refine rw_iload_n dX2_numberAt_2 3 rfl rfl ?_
    refine rw_aload_n dX2_numberAt_3 0 rfl rfl ?_
    refine sg_1_1 hr dX2_numberAt_4 fl169 ?_
    refine rw_aload_n dX2_numberAt_7 0 rfl rfl ?_
    refine sg_1_2 hr dX2_numberAt_8 fl174 ?_
    refine rw_iadd dX2_numberAt_11 ?_
    refine rw_icmp_ge (tgt := 40) dX2_numberAt_12 (by decide) (fun c1 => ?_) (fun c1 => ?_)
    · rw [if_pos c1] at hf
      refine rw_iconst (v := (-1)) dX2_numberAt_40 (by decide) ?_
      replace hf := Option.some.inj hf
      subst hf
      exact rw_ireturn dX2_numberAt_41 rfl ⟨rfl, hr⟩ (by decide) (by decide)
    · rw [if_neg c1] at hf
      refine rw_aload_n dX2_numberAt_15 0 rfl rfl ?_
      refine sg_1_0 hr dX2_numberAt_16 fl163 ?_
      refine rw_iload_n dX2_numberAt_19 3 rfl rfl ?_
      obtain ⟨hi2, hf⟩ := grd hf
      refine sa_2 hr dX2_numberAt_20 (inB_in hi2) ?_
      obtain ⟨hp3, hf⟩ := grd hf
      refine sg_Bo_0 hr dX2_numberAt_21 fl136 hp3 ?_
      refine rw_iload_n dX2_numberAt_24 1 rfl rfl ?_
      refine rw_iload_n dX2_numberAt_25 2 rfl rfl ?_
      obtain ⟨hp5, hf⟩ := grd hf
      obtain ⟨q4, hq4, hf⟩ := bnd hf
      refine kV_I (ad := ad) (As := [.int v1, .int v2]) (st := []) dX2_numberAt_26 calX7_squareTo wm689 wm552 wm553 rfl rfl (rc_Pl hr hp5) (ci := 7) (by decide) rfl rfl (Nat.le_of_ble_eq_true rfl) ⟨⟨by decide, by decide⟩, by decide, by decide⟩ (cmX7_squareTo hr hq4) (fun h hr => ?_)
      refine rw_if_ne (tgt := 34) dX2_numberAt_29 (by decide) (fun c6 => ?_) (fun c6 => ?_)
      · rw [if_neg c6] at hf
        refine rw_iinc (v := v3 + 1) (lv2 := [(3, .int (v3 + 1)), (0, .ref (ad 1)), (1, .int v1), (2, .int v2)]) dX2_numberAt_34 3 rfl rfl (by decide) rfl ?_
        refine nmL hf (fun x7 hf => ?_)
        refine rw_goto (tgt := 2) dX2_numberAt_37 (by decide) ?_
        refine rw_sub [1, 2, 3, 0] rfl ?_
        exact ih v1 v2 x7 q4.2 _ hr hf
      · rw [if_pos c6] at hf
        refine rw_iload_n dX2_numberAt_32 3 rfl rfl ?_
        replace hf := Option.some.inj hf
        subst hf
        exact rw_ireturn dX2_numberAt_33 rfl ⟨rfl, hr⟩ (by decide) (by decide)
def fX2_numberAt (a0 : Int32) (a1 : Int32) (σ : rS) : Option (Int32 × rS) := lX2_numberAt_2 1000 a0 a1 0 σ
set_option maxHeartbeats 4000000 in
theorem cmX2_numberAt {G : rG} {ad : Nat → Nat} {a0 : Int32} {a1 : Int32} {σ : rS} {h : rH} {o : (Int32 × rS)} (hr : Rep G ad σ h) (hf : fX2_numberAt a0 a1 σ = some o) : rMT G mX2_numberAt (rm 1 0 0) [.ref (ad 1), .int a0, .int a1] h (qI G ad o) xN := by
  unfold fX2_numberAt at hf
  refine rw_met (by decide +kernel) rfl (Nat.le_of_ble_eq_true rfl) ?_
  show RW G _ _ _ _ 0 0 0 [(0, .ref (ad 1)), (1, .int a0), (2, .int a1)] [] h
  refine rw_iconst (v := 0) dX2_numberAt_0 (by decide) ?_
  refine rw_istore_n (lv2 := [(3, .int 0), (0, .ref (ad 1)), (1, .int a0), (2, .int a1)]) dX2_numberAt_1 rfl (by decide) rfl ?_
  refine rw_sub [1, 2, 3, 0] rfl ?_
  exact t_lX2_numberAt_2 (ad := ad) (G := G)  1000 a0 a1 0 σ _ hr hf
def jX2_nearest_54 (k5 : Int32 → Int32 → Int32 → Int32 → rS → Option (Int32 × rS)) (v1 : Int32) (v2 : Int32) (v3 : Int32) (v4 : Int32) (σ : rS) : Option (Int32 × rS) := vI (v4 + 1) fun x12 => k5 v1 v2 v3 x12 σ
set_option maxHeartbeats 4000000 in
theorem t_jX2_nearest_54 {G : rG} {ad : Nat → Nat} {o : (Int32 × rS)} (k5 : Int32 → Int32 → Int32 → Int32 → rS → Option (Int32 × rS)) (hk5 : ∀ (v1 : Int32) (v2 : Int32) (v3 : Int32) (v4 : Int32) (σ : rS) (h : rH), Rep G ad σ h → k5 v1 v2 v3 v4 σ = some o → RW G mX2_nearest (rm 1 0 0) (qI G ad o) xN 0 0 5 [(0, .ref (ad 1)), (1, .int v1), (2, .int v2), (3, .int v3), (4, .int v4)] [] h) (v1 : Int32) (v2 : Int32) (v3 : Int32) (v4 : Int32) (σ : rS) (h : rH) (hr : Rep G ad σ h) (hf : jX2_nearest_54 k5 v1 v2 v3 v4 σ = some o) : RW G mX2_nearest (rm 1 0 0) (qI G ad o) xN 0 0 54 [(0, .ref (ad 1)), (1, .int v1), (2, .int v2), (3, .int v3), (4, .int v4)] [] h := by
  unfold jX2_nearest_54 at hf
  refine rw_iinc (v := v4 + 1) (lv2 := [(4, .int (v4 + 1)), (0, .ref (ad 1)), (1, .int v1), (2, .int v2), (3, .int v3)]) dX2_nearest_54 4 rfl rfl (by decide) rfl ?_
  refine nmL hf (fun x12 hf => ?_)
  refine rw_goto (tgt := 5) dX2_nearest_57 (by decide) ?_
  refine rw_sub [1, 2, 3, 4, 0] rfl ?_
  exact hk5 v1 v2 v3 x12 σ _ hr hf
def jX2_nearest_51 (k5 : Int32 → Int32 → Int32 → Int32 → rS → Option (Int32 × rS)) (v1 : Int32) (v2 : Int32) (v4 : Int32) (σ : rS) : Option (Int32 × rS) := jX2_nearest_54 k5 v1 v2 v4 v4 σ
set_option maxHeartbeats 4000000 in
theorem t_jX2_nearest_51 {G : rG} {ad : Nat → Nat} {o : (Int32 × rS)} (k5 : Int32 → Int32 → Int32 → Int32 → rS → Option (Int32 × rS)) (hk5 : ∀ (v1 : Int32) (v2 : Int32) (v3 : Int32) (v4 : Int32) (σ : rS) (h : rH), Rep G ad σ h → k5 v1 v2 v3 v4 σ = some o → RW G mX2_nearest (rm 1 0 0) (qI G ad o) xN 0 0 5 [(0, .ref (ad 1)), (1, .int v1), (2, .int v2), (3, .int v3), (4, .int v4)] [] h) (v1 : Int32) (v2 : Int32) (v4 : Int32) (σ : rS) (h : rH) (hr : Rep G ad σ h) (hf : jX2_nearest_51 k5 v1 v2 v4 σ = some o) : RW G mX2_nearest (rm 1 0 0) (qI G ad o) xN 0 0 51 [(0, .ref (ad 1)), (1, .int v1), (2, .int v2), (4, .int v4)] [] h := by
  unfold jX2_nearest_51 at hf
  refine rw_iload dX2_nearest_51 3 rfl ?_
  refine rw_istore_n (lv2 := [(3, .int v4), (0, .ref (ad 1)), (1, .int v1), (2, .int v2), (4, .int v4)]) dX2_nearest_53 rfl (by decide) rfl ?_
  refine rw_sub [1, 2, 3, 0, 4] rfl ?_
  exact t_jX2_nearest_54 (ad := ad) (G := G) k5 hk5 v1 v2 v4 v4 σ _ hr hf
def lX2_nearest_5  : Nat → Int32 → Int32 → Int32 → Int32 → rS → Option (Int32 × rS)
  | 0, _, _, _, _, _ => none
  | n + 1, v1, v2, v3, v4, σ => if (σ.1 1 1) ≤ v4 then some (v3, σ) else if v3 = ((-1)) then jX2_nearest_51 (lX2_nearest_5 n) v1 v2 v4 σ else if inB v4 16 then if isBo (80 + 4 * v4.toNatClampNeg) then if isPl (80 + 4 * v4.toNatClampNeg + 1) then (fX7_squareTo (80 + 4 * v4.toNatClampNeg + 1) v1 v2 σ).bind fun q5 => if inB v3 16 then if isBo (80 + 4 * v3.toNatClampNeg) then if isPl (80 + 4 * v3.toNatClampNeg + 1) then (fX7_squareTo (80 + 4 * v3.toNatClampNeg + 1) v1 v2 q5.2).bind fun q9 => (if q9.1 ≤ q5.1 then jX2_nearest_54 (lX2_nearest_5 n) v1 v2 v3 v4 q9.2 else jX2_nearest_51 (lX2_nearest_5 n) v1 v2 v4 q9.2) else none else none else none else none else none else none
set_option maxHeartbeats 4000000 in
theorem t_lX2_nearest_5 {G : rG} {ad : Nat → Nat} {o : (Int32 × rS)}   : ∀ (n : Nat) (v1 : Int32) (v2 : Int32) (v3 : Int32) (v4 : Int32) (σ : rS) (h : rH), Rep G ad σ h → lX2_nearest_5  n v1 v2 v3 v4 σ = some o → RW G mX2_nearest (rm 1 0 0) (qI G ad o) xN 0 0 5 [(0, .ref (ad 1)), (1, .int v1), (2, .int v2), (3, .int v3), (4, .int v4)] [] h := by
  intro n
  induction n with
  | zero =>
    intro v1 v2 v3 v4 σ h hr hf
    rw [lX2_nearest_5] at hf
    cases hf
  | succ n ih =>
    intro v1 v2 v3 v4 σ h hr hf
    rw [lX2_nearest_5] at hf
    refine rw_iload dX2_nearest_5 4 rfl ?_
    refine rw_aload_n dX2_nearest_7 0 rfl rfl ?_
    refine sg_1_1 hr dX2_nearest_8 fl169 ?_
    refine rw_icmp_ge (tgt := 60) dX2_nearest_11 (by decide) (fun c1 => ?_) (fun c1 => ?_)
    · rw [if_pos c1] at hf
      refine rw_iload_n dX2_nearest_60 3 rfl rfl ?_
      replace hf := Option.some.inj hf
      subst hf
      exact rw_ireturn dX2_nearest_61 rfl ⟨rfl, hr⟩ (by decide) (by decide)
    · rw [if_neg c1] at hf
      refine rw_iload_n dX2_nearest_14 3 rfl rfl ?_
      refine rw_iconst (v := (-1)) dX2_nearest_15 (by decide) ?_
      refine rw_icmp_eq (tgt := 51) dX2_nearest_16 (by decide) (fun c2 => ?_) (fun c2 => ?_)
      · rw [if_pos c2] at hf
        refine rw_sub [0, 1, 2, 4] rfl ?_
        exact t_jX2_nearest_51 (ad := ad) (G := G) (lX2_nearest_5 n) ih v1 v2 v4 σ _ hr hf
      · rw [if_neg c2] at hf
        refine rw_aload_n dX2_nearest_19 0 rfl rfl ?_
        refine sg_1_0 hr dX2_nearest_20 fl163 ?_
        refine rw_iload dX2_nearest_23 4 rfl ?_
        obtain ⟨hi3, hf⟩ := grd hf
        refine sa_2 hr dX2_nearest_25 (inB_in hi3) ?_
        obtain ⟨hp4, hf⟩ := grd hf
        refine sg_Bo_0 hr dX2_nearest_26 fl136 hp4 ?_
        refine rw_iload_n dX2_nearest_29 1 rfl rfl ?_
        refine rw_iload_n dX2_nearest_30 2 rfl rfl ?_
        obtain ⟨hp6, hf⟩ := grd hf
        obtain ⟨q5, hq5, hf⟩ := bnd hf
        refine kV_I (ad := ad) (As := [.int v1, .int v2]) (st := []) dX2_nearest_31 calX7_squareTo wm689 wm552 wm553 rfl rfl (rc_Pl hr hp6) (ci := 7) (by decide) rfl rfl (Nat.le_of_ble_eq_true rfl) ⟨⟨by decide, by decide⟩, by decide, by decide⟩ (cmX7_squareTo hr hq5) (fun h hr => ?_)
        refine rw_aload_n dX2_nearest_34 0 rfl rfl ?_
        refine sg_1_0 hr dX2_nearest_35 fl163 ?_
        refine rw_iload_n dX2_nearest_38 3 rfl rfl ?_
        obtain ⟨hi7, hf⟩ := grd hf
        refine sa_2 hr dX2_nearest_39 (inB_in hi7) ?_
        obtain ⟨hp8, hf⟩ := grd hf
        refine sg_Bo_0 hr dX2_nearest_40 fl136 hp8 ?_
        refine rw_iload_n dX2_nearest_43 1 rfl rfl ?_
        refine rw_iload_n dX2_nearest_44 2 rfl rfl ?_
        obtain ⟨hp10, hf⟩ := grd hf
        obtain ⟨q9, hq9, hf⟩ := bnd hf
        refine kV_I (ad := ad) (As := [.int v1, .int v2]) (st := [.int q5.1]) dX2_nearest_45 calX7_squareTo wm689 wm552 wm553 rfl rfl (rc_Pl hr hp10) (ci := 7) (by decide) rfl rfl (Nat.le_of_ble_eq_true rfl) ⟨⟨by decide, by decide⟩, by decide, by decide⟩ (cmX7_squareTo hr hq9) (fun h hr => ?_)
        refine rw_icmp_ge (tgt := 54) dX2_nearest_48 (by decide) (fun c11 => ?_) (fun c11 => ?_)
        · rw [if_pos c11] at hf
          exact t_jX2_nearest_54 (ad := ad) (G := G) (lX2_nearest_5 n) ih v1 v2 v3 v4 q9.2 _ hr hf
        · rw [if_neg c11] at hf
          refine rw_sub [0, 1, 2, 4] rfl ?_
          exact t_jX2_nearest_51 (ad := ad) (G := G) (lX2_nearest_5 n) ih v1 v2 v4 q9.2 _ hr hf
def fX2_nearest (a0 : Int32) (a1 : Int32) (σ : rS) : Option (Int32 × rS) := lX2_nearest_5 1000 a0 a1 ((-1)) 0 σ
set_option maxHeartbeats 4000000 in
theorem cmX2_nearest {G : rG} {ad : Nat → Nat} {a0 : Int32} {a1 : Int32} {σ : rS} {h : rH} {o : (Int32 × rS)} (hr : Rep G ad σ h) (hf : fX2_nearest a0 a1 σ = some o) : rMT G mX2_nearest (rm 1 0 0) [.ref (ad 1), .int a0, .int a1] h (qI G ad o) xN := by
  unfold fX2_nearest at hf
  refine rw_met (by decide +kernel) rfl (Nat.le_of_ble_eq_true rfl) ?_
  show RW G _ _ _ _ 0 0 0 [(0, .ref (ad 1)), (1, .int a0), (2, .int a1)] [] h
  refine rw_iconst (v := (-1)) dX2_nearest_0 (by decide) ?_
  refine rw_istore_n (lv2 := [(3, .int ((-1))), (0, .ref (ad 1)), (1, .int a0), (2, .int a1)]) dX2_nearest_1 rfl (by decide) rfl ?_
  refine rw_iconst (v := 0) dX2_nearest_2 (by decide) ?_
  refine rw_istore (lv2 := [(4, .int 0), (3, .int ((-1))), (0, .ref (ad 1)), (1, .int a0), (2, .int a1)]) dX2_nearest_3 (by decide) rfl ?_
  refine rw_sub [2, 3, 4, 1, 0] rfl ?_
  exact t_lX2_nearest_5 (ad := ad) (G := G)  1000 a0 a1 ((-1)) 0 σ _ hr hf
def jX2_stage_37   (σ : rS) : Option (Unit × rS) := some ((), σ)
set_option maxHeartbeats 4000000 in
theorem t_jX2_stage_37 {G : rG} {ad : Nat → Nat} {o : (Unit × rS)}    (σ : rS) (h : rH) (hr : Rep G ad σ h) (hf : jX2_stage_37   σ = some o) : RW G mX2_stage (rm 2 0 0) (qV G ad o) xN 0 0 37 [] [] h := by
  unfold jX2_stage_37 at hf
  replace hf := Option.some.inj hf
  subst hf
  exact rw_return dX2_stage_37 rfl ⟨rfl, hr⟩ (by decide) (by decide)
def fX2_stage (a0 : Int32) (a1 : Int32) (a2 : Int32) (σ : rS) : Option (Unit × rS) := (fX2_isFull σ).bind fun q1 => if q1.1 = 0 then if inB ((q1.2.1 1 1) + (q1.2.1 1 2)) 16 then if isBo (80 + 4 * ((q1.2.1 1 1) + (q1.2.1 1 2)).toNatClampNeg) then (fX1_begin (80 + 4 * ((q1.2.1 1 1) + (q1.2.1 1 2)).toNatClampNeg) a0 a1 a2 q1.2).bind fun q4 => vS (uI q4.2 1 2 ((q4.2.1 1 2) + 1)) fun σ6 => jX2_stage_37 σ6 else none else none else jX2_stage_37 q1.2
set_option maxHeartbeats 4000000 in
theorem cmX2_stage {G : rG} {ad : Nat → Nat} {a0 : Int32} {a1 : Int32} {a2 : Int32} {σ : rS} {h : rH} {o : (Unit × rS)} (hr : Rep G ad σ h) (hf : fX2_stage a0 a1 a2 σ = some o) : rMT G mX2_stage (rm 2 0 0) [.ref (ad 1), .int a0, .int a1, .int a2] h (qV G ad o) xN := by
  unfold fX2_stage at hf
  refine rw_met (by decide +kernel) rfl (Nat.le_of_ble_eq_true rfl) ?_
  show RW G _ _ _ _ 0 0 0 [(0, .ref (ad 1)), (1, .int a0), (2, .int a1), (3, .int a2)] [] h
  refine rw_aload_n dX2_stage_0 0 rfl rfl ?_
  obtain ⟨q1, hq1, hf⟩ := bnd hf
  refine kV_I (ad := ad) (As := []) (st := []) dX2_stage_1 calX2_isFull wm744 wm723 wm724 rfl rfl (rc_1 hr) (ci := 3) (by decide) rfl rfl (Nat.le_of_ble_eq_true rfl) ⟨⟨by decide, by decide⟩, by decide, by decide⟩ (cmX2_isFull hr hq1) (fun h hr => ?_)
  refine rw_if_ne (tgt := 37) dX2_stage_4 (by decide) (fun c2 => ?_) (fun c2 => ?_)
  · rw [if_neg c2] at hf
    refine rw_sub [] rfl ?_
    exact t_jX2_stage_37 (ad := ad) (G := G)  q1.2 _ hr hf
  · rw [if_pos c2] at hf
    refine rw_aload_n dX2_stage_7 0 rfl rfl ?_
    refine sg_1_0 hr dX2_stage_8 fl163 ?_
    refine rw_aload_n dX2_stage_11 0 rfl rfl ?_
    refine sg_1_1 hr dX2_stage_12 fl169 ?_
    refine rw_aload_n dX2_stage_15 0 rfl rfl ?_
    refine sg_1_2 hr dX2_stage_16 fl174 ?_
    refine rw_iadd dX2_stage_19 ?_
    obtain ⟨hi3, hf⟩ := grd hf
    refine sa_2 hr dX2_stage_20 (inB_in hi3) ?_
    refine rw_iload_n dX2_stage_21 1 rfl rfl ?_
    refine rw_iload_n dX2_stage_22 2 rfl rfl ?_
    refine rw_iload_n dX2_stage_23 3 rfl rfl ?_
    obtain ⟨hp5, hf⟩ := grd hf
    obtain ⟨q4, hq4, hf⟩ := bnd hf
    refine kV_V (ad := ad) (As := [.int a0, .int a1, .int a2]) (st := []) dX2_stage_24 calX1_begin wm745 wm746 wm747 rfl rfl (rc_Bo hr hp5) (ci := 2) (by decide) rfl rfl (Nat.le_of_ble_eq_true rfl) ⟨⟨by decide, by decide⟩, by decide, by decide⟩ (cmX1_begin hr hq4) (fun h hr => ?_)
    refine rw_aload_n dX2_stage_27 0 rfl rfl ?_
    refine rw_dup dX2_stage_28 rfl ?_
    refine sg_1_2 hr dX2_stage_29 fl174 ?_
    refine rw_iconst (v := 1) dX2_stage_32 (by decide) ?_
    refine rw_iadd dX2_stage_33 ?_
    refine sp_1_2 hr dX2_stage_34 fl174 (fun h hr => ?_)
    refine nmS hf hr (fun σ6 hr hf => ?_)
    refine rw_sub [] rfl ?_
    exact t_jX2_stage_37 (ad := ad) (G := G)  σ6 _ hr hf
def jX2_addLayerToStaged_28   (σ : rS) : Option (Unit × rS) := some ((), σ)
set_option maxHeartbeats 4000000 in
theorem t_jX2_addLayerToStaged_28 {G : rG} {ad : Nat → Nat} {o : (Unit × rS)}    (σ : rS) (h : rH) (hr : Rep G ad σ h) (hf : jX2_addLayerToStaged_28   σ = some o) : RW G mX2_addLayerToStaged (rm 1 0 0) (qV G ad o) xN 0 0 28 [] [] h := by
  unfold jX2_addLayerToStaged_28 at hf
  replace hf := Option.some.inj hf
  subst hf
  exact rw_return dX2_addLayerToStaged_28 rfl ⟨rfl, hr⟩ (by decide) (by decide)
def fX2_addLayerToStaged (a0 : Int32) (a1 : Int32) (σ : rS) : Option (Unit × rS) := if (σ.1 1 2) ≤ 0 then jX2_addLayerToStaged_28 σ else if inB (((σ.1 1 1) + (σ.1 1 2)) - 1) 16 then if isBo (80 + 4 * (((σ.1 1 1) + (σ.1 1 2)) - 1).toNatClampNeg) then (fX1_addLayer (80 + 4 * (((σ.1 1 1) + (σ.1 1 2)) - 1).toNatClampNeg) a0 a1 σ).bind fun q3 => jX2_addLayerToStaged_28 q3.2 else none else none
set_option maxHeartbeats 4000000 in
theorem cmX2_addLayerToStaged {G : rG} {ad : Nat → Nat} {a0 : Int32} {a1 : Int32} {σ : rS} {h : rH} {o : (Unit × rS)} (hr : Rep G ad σ h) (hf : fX2_addLayerToStaged a0 a1 σ = some o) : rMT G mX2_addLayerToStaged (rm 1 0 0) [.ref (ad 1), .int a0, .int a1] h (qV G ad o) xN := by
  unfold fX2_addLayerToStaged at hf
  refine rw_met (by decide +kernel) rfl (Nat.le_of_ble_eq_true rfl) ?_
  show RW G _ _ _ _ 0 0 0 [(0, .ref (ad 1)), (1, .int a0), (2, .int a1)] [] h
  refine rw_aload_n dX2_addLayerToStaged_0 0 rfl rfl ?_
  refine sg_1_2 hr dX2_addLayerToStaged_1 fl174 ?_
  refine rw_if_le (tgt := 28) dX2_addLayerToStaged_4 (by decide) (fun c1 => ?_) (fun c1 => ?_)
  · rw [if_pos c1] at hf
    refine rw_sub [] rfl ?_
    exact t_jX2_addLayerToStaged_28 (ad := ad) (G := G)  σ _ hr hf
  · rw [if_neg c1] at hf
    refine rw_aload_n dX2_addLayerToStaged_7 0 rfl rfl ?_
    refine sg_1_0 hr dX2_addLayerToStaged_8 fl163 ?_
    refine rw_aload_n dX2_addLayerToStaged_11 0 rfl rfl ?_
    refine sg_1_1 hr dX2_addLayerToStaged_12 fl169 ?_
    refine rw_aload_n dX2_addLayerToStaged_15 0 rfl rfl ?_
    refine sg_1_2 hr dX2_addLayerToStaged_16 fl174 ?_
    refine rw_iadd dX2_addLayerToStaged_19 ?_
    refine rw_iconst (v := 1) dX2_addLayerToStaged_20 (by decide) ?_
    refine rw_isub dX2_addLayerToStaged_21 ?_
    obtain ⟨hi2, hf⟩ := grd hf
    refine sa_2 hr dX2_addLayerToStaged_22 (inB_in hi2) ?_
    refine rw_iload_n dX2_addLayerToStaged_23 1 rfl rfl ?_
    refine rw_iload_n dX2_addLayerToStaged_24 2 rfl rfl ?_
    obtain ⟨hp4, hf⟩ := grd hf
    obtain ⟨q3, hq3, hf⟩ := bnd hf
    refine kV_V (ad := ad) (As := [.int a0, .int a1]) (st := []) dX2_addLayerToStaged_25 calX1_addLayer wm758 wm759 wm760 rfl rfl (rc_Bo hr hp4) (ci := 2) (by decide) rfl rfl (Nat.le_of_ble_eq_true rfl) ⟨⟨by decide, by decide⟩, by decide, by decide⟩ (cmX1_addLayer hr hq3) (fun h hr => ?_)
    refine rw_sub [] rfl ?_
    exact t_jX2_addLayerToStaged_28 (ad := ad) (G := G)  q3.2 _ hr hf
def fX2_keepStaged  (σ : rS) : Option (Unit × rS) := vS (uI σ 1 1 ((σ.1 1 1) + (σ.1 1 2))) fun σ1 => vS (uI σ1 1 2 0) fun σ2 => some ((), σ2)
set_option maxHeartbeats 4000000 in
theorem cmX2_keepStaged {G : rG} {ad : Nat → Nat}  {σ : rS} {h : rH} {o : (Unit × rS)} (hr : Rep G ad σ h) (hf : fX2_keepStaged  σ = some o) : rMT G mX2_keepStaged (rm 0 0 0) [.ref (ad 1)] h (qV G ad o) xN := by
  unfold fX2_keepStaged at hf
  refine rw_met (by decide +kernel) rfl (Nat.le_of_ble_eq_true rfl) ?_
  show RW G _ _ _ _ 0 0 0 [(0, .ref (ad 1))] [] h
  refine rw_aload_n dX2_keepStaged_0 0 rfl rfl ?_
  refine rw_dup dX2_keepStaged_1 rfl ?_
  refine sg_1_1 hr dX2_keepStaged_2 fl169 ?_
  refine rw_aload_n dX2_keepStaged_5 0 rfl rfl ?_
  refine sg_1_2 hr dX2_keepStaged_6 fl174 ?_
  refine rw_iadd dX2_keepStaged_9 ?_
  refine sp_1_1 hr dX2_keepStaged_10 fl169 (fun h hr => ?_)
  refine nmS hf hr (fun σ1 hr hf => ?_)
  refine rw_aload_n dX2_keepStaged_13 0 rfl rfl ?_
  refine rw_iconst (v := 0) dX2_keepStaged_14 (by decide) ?_
  refine sp_1_2 hr dX2_keepStaged_15 fl174 (fun h hr => ?_)
  refine nmS hf hr (fun σ2 hr hf => ?_)
  replace hf := Option.some.inj hf
  subst hf
  exact rw_return dX2_keepStaged_18 rfl ⟨rfl, hr⟩ (by decide) (by decide)
