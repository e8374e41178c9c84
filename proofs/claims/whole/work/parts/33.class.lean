def jX10_put_41  (v1 : Int32) (v2 : Int32) (v3 : Int32) (v4 : Int32) (σ : rS) : Option (Int32 × rS) := if inB v4 60 then vS (uA σ 7 v4.toNatClampNeg v1) fun σ8 => if inB v4 60 then vS (uA σ8 8 v4.toNatClampNeg v2) fun σ10 => if inB v4 60 then vS (uA σ10 9 v4.toNatClampNeg v3) fun σ12 => some (1, σ12) else none else none else none
set_option maxHeartbeats 4000000 in
theorem t_jX10_put_41 {G : rG} {ad : Nat → Nat} {o : (Int32 × rS)}   (v1 : Int32) (v2 : Int32) (v3 : Int32) (v4 : Int32) (σ : rS) (h : rH) (hr : Rep G ad σ h) (hf : jX10_put_41  v1 v2 v3 v4 σ = some o) : RW G mX10_put (rm 1 0 0) (qI G ad o) xN 0 0 41 [(0, .ref (ad 6)), (1, .int v1), (2, .int v2), (3, .int v3), (4, .int v4)] [] h := by
  unfold jX10_put_41 at hf
  refine rw_aload_n dX10_put_41 0 rfl rfl ?_
  refine sg_6_0 hr dX10_put_42 fl208 ?_
  refine rw_iload dX10_put_45 4 rfl ?_
  refine rw_iload_n dX10_put_47 1 rfl rfl ?_
  obtain ⟨hi7, hf⟩ := grd hf
  refine ss_7 hr dX10_put_48 (inB_in hi7) (fun h hr => ?_)
  refine nmS hf hr (fun σ8 hr hf => ?_)
  refine rw_aload_n dX10_put_49 0 rfl rfl ?_
  refine sg_6_1 hr dX10_put_50 fl209 ?_
  refine rw_iload dX10_put_53 4 rfl ?_
  refine rw_iload_n dX10_put_55 2 rfl rfl ?_
  obtain ⟨hi9, hf⟩ := grd hf
  refine ss_8 hr dX10_put_56 (inB_in hi9) (fun h hr => ?_)
  refine nmS hf hr (fun σ10 hr hf => ?_)
  refine rw_aload_n dX10_put_57 0 rfl rfl ?_
  refine sg_6_2 hr dX10_put_58 fl210 ?_
  refine rw_iload dX10_put_61 4 rfl ?_
  refine rw_iload_n dX10_put_63 3 rfl rfl ?_
  obtain ⟨hi11, hf⟩ := grd hf
  refine ss_9 hr dX10_put_64 (inB_in hi11) (fun h hr => ?_)
  refine nmS hf hr (fun σ12 hr hf => ?_)
  refine rw_iconst (v := 1) dX10_put_65 (by decide) ?_
  replace hf := Option.some.inj hf
  subst hf
  exact rw_zreturn dX10_put_66 rfl (by decide) ⟨rfl, hr⟩ (by decide) (by decide)
def fX10_put (a0 : Int32) (a1 : Int32) (a2 : Int32) (σ : rS) : Option (Int32 × rS) := (fX10_find a0 a1 σ).bind fun q1 => vI q1.1 fun x2 => if x2 = ((-1)) then if (q1.2.1 6 3) < 60 then vI (q1.2.1 6 3) fun x5 => vS (uI q1.2 6 3 ((q1.2.1 6 3) + 1)) fun σ6 => jX10_put_41 a0 a1 a2 x5 σ6 else some (0, q1.2) else jX10_put_41 a0 a1 a2 x2 q1.2
set_option maxHeartbeats 4000000 in
theorem cmX10_put {G : rG} {ad : Nat → Nat} {a0 : Int32} {a1 : Int32} {a2 : Int32} {σ : rS} {h : rH} {o : (Int32 × rS)} (hr : Rep G ad σ h) (hf : fX10_put a0 a1 a2 σ = some o) : rMT G mX10_put (rm 1 0 0) [.ref (ad 6), .int a0, .int a1, .int a2] h (qI G ad o) xN := by
  unfold fX10_put at hf
  refine rw_met (by decide +kernel) rfl (Nat.le_of_ble_eq_true rfl) ?_
  show RW G _ _ _ _ 0 0 0 [(0, .ref (ad 6)), (1, .int a0), (2, .int a1), (3, .int a2)] [] h
  refine rw_aload_n dX10_put_0 0 rfl rfl ?_
  refine rw_iload_n dX10_put_1 1 rfl rfl ?_
  refine rw_iload_n dX10_put_2 2 rfl rfl ?_
  obtain ⟨q1, hq1, hf⟩ := bnd hf
  refine kV_I (ad := ad) (As := [.int a0, .int a1]) (st := []) dX10_put_3 calX10_find wm531 wm533 wm0 rfl rfl (rc_6 hr) (ci := 10) (by decide) rfl rfl (Nat.le_of_ble_eq_true rfl) ⟨⟨by decide, by decide⟩, by decide, by decide⟩ (cmX10_find hr hq1) (fun h hr => ?_)
  refine nmI hf (fun x2 hf => ?_)
  refine rw_istore (lv2 := [(4, .int x2), (0, .ref (ad 6)), (1, .int a0), (2, .int a1), (3, .int a2)]) dX10_put_6 (by decide) rfl ?_
  refine rw_iload dX10_put_8 0 rfl ?_
  refine rw_iconst (v := (-1)) dX10_put_10 (by decide) ?_
  refine rw_icmp_ne (tgt := 41) dX10_put_11 (by decide) (fun c3 => ?_) (fun c3 => ?_)
  · rw [if_neg c3] at hf
    refine rw_sub [1, 2, 3, 4, 0] rfl ?_
    exact t_jX10_put_41 (ad := ad) (G := G)  a0 a1 a2 x2 q1.2 _ hr hf
  · rw [if_pos c3] at hf
    refine rw_aload_n dX10_put_14 1 rfl rfl ?_
    refine sg_6_3 hr dX10_put_15 fl211 ?_
    refine rw_bipush (v := 60) dX10_put_18 (by decide) ?_
    refine rw_icmp_lt (tgt := 25) dX10_put_20 (by decide) (fun c4 => ?_) (fun c4 => ?_)
    · rw [if_pos c4] at hf
      refine rw_aload_n dX10_put_25 1 rfl rfl ?_
      refine sg_6_3 hr dX10_put_26 fl211 ?_
      refine nmI hf (fun x5 hf => ?_)
      refine rw_istore (lv2 := [(4, .int x5), (0, .ref (ad 6)), (1, .int a0), (2, .int a1), (3, .int a2)]) dX10_put_29 (by decide) rfl ?_
      refine rw_aload_n dX10_put_31 1 rfl rfl ?_
      refine rw_dup dX10_put_32 rfl ?_
      refine sg_6_3 hr dX10_put_33 fl211 ?_
      refine rw_iconst (v := 1) dX10_put_36 (by decide) ?_
      refine rw_iadd dX10_put_37 ?_
      refine sp_6_3 hr dX10_put_38 fl211 (fun h hr => ?_)
      refine nmS hf hr (fun σ6 hr hf => ?_)
      refine rw_sub [1, 2, 3, 4, 0] rfl ?_
      exact t_jX10_put_41 (ad := ad) (G := G)  a0 a1 a2 x5 σ6 _ hr hf
    · rw [if_neg c4] at hf
      refine rw_iconst (v := 0) dX10_put_23 (by decide) ?_
      replace hf := Option.some.inj hf
      subst hf
      exact rw_zreturn dX10_put_24 rfl (by decide) ⟨rfl, hr⟩ (by decide) (by decide)
def jX11_isPlace_31  (s0 : Int32) (σ : rS) : Option (Int32 × rS) := if s0 = 0 ∨ s0 = 1 then some (s0, σ) else none
set_option maxHeartbeats 4000000 in
theorem t_jX11_isPlace_31 {G : rG} {ad : Nat → Nat} {o : (Int32 × rS)}   (s0 : Int32) (σ : rS) (h : rH) (hr : Rep G ad σ h) (hf : jX11_isPlace_31  s0 σ = some o) : RW G mX11_isPlace (rm 1 0 0) (qI G ad o) xN 0 0 31 [] [.int s0] h := by
  unfold jX11_isPlace_31 at hf
  obtain ⟨hz5, hf⟩ := grd hf
  replace hf := Option.some.inj hf
  subst hf
  exact rw_zreturn dX11_isPlace_31 rfl (nar_z hz5) ⟨rfl, hr⟩ (by decide) (by decide)
def jX11_isPlace_30   (σ : rS) : Option (Int32 × rS) := jX11_isPlace_31 0 σ
set_option maxHeartbeats 4000000 in
theorem t_jX11_isPlace_30 {G : rG} {ad : Nat → Nat} {o : (Int32 × rS)}    (σ : rS) (h : rH) (hr : Rep G ad σ h) (hf : jX11_isPlace_30   σ = some o) : RW G mX11_isPlace (rm 1 0 0) (qI G ad o) xN 0 0 30 [] [] h := by
  unfold jX11_isPlace_30 at hf
  refine rw_iconst (v := 0) dX11_isPlace_30 (by decide) ?_
  exact t_jX11_isPlace_31 (ad := ad) (G := G)  0 σ _ hr hf
def fX11_isPlace (a0 : Int32) (a1 : Int32) (σ : rS) : Option (Int32 × rS) := (fX11_isFrom ((-1000)) 1000 a0 σ).bind fun q1 => if q1.1 = 0 then jX11_isPlace_30 q1.2 else (fX11_isFrom ((-1000)) 1000 a1 q1.2).bind fun q3 => if q3.1 = 0 then jX11_isPlace_30 q3.2 else jX11_isPlace_31 1 q3.2
set_option maxHeartbeats 4000000 in
theorem cmX11_isPlace {G : rG} {ad : Nat → Nat} {a0 : Int32} {a1 : Int32} {σ : rS} {h : rH} {o : (Int32 × rS)} (hr : Rep G ad σ h) (hf : fX11_isPlace a0 a1 σ = some o) : rMT G mX11_isPlace (rm 1 0 0) [.int a0, .int a1] h (qI G ad o) xN := by
  unfold fX11_isPlace at hf
  refine rw_met (by decide +kernel) rfl (Nat.le_of_ble_eq_true rfl) ?_
  show RW G _ _ _ _ 0 0 0 [(0, .int a0), (1, .int a1)] [] h
  refine rw_sipush (v := (-1000)) dX11_isPlace_0 (by decide) ?_
  refine rw_sipush (v := 1000) dX11_isPlace_3 (by decide) ?_
  refine rw_iload_n dX11_isPlace_6 0 rfl rfl ?_
  obtain ⟨q1, hq1, hf⟩ := bnd hf
  refine kS_I (ad := ad) (As := [.int ((-1000)), .int 1000, .int a0]) (st := []) dX11_isPlace_7 calX11_isFrom wm489 wm490 rfl rfl (Nat.le_of_ble_eq_true rfl) ⟨⟨by decide, by decide⟩, by decide, by decide⟩ (cmX11_isFrom hr hq1) (fun h hr => ?_)
  refine rw_if_eq (tgt := 30) dX11_isPlace_10 (by decide) (fun c2 => ?_) (fun c2 => ?_)
  · rw [if_pos c2] at hf
    refine rw_sub [] rfl ?_
    exact t_jX11_isPlace_30 (ad := ad) (G := G)  q1.2 _ hr hf
  · rw [if_neg c2] at hf
    refine rw_sipush (v := (-1000)) dX11_isPlace_13 (by decide) ?_
    refine rw_sipush (v := 1000) dX11_isPlace_16 (by decide) ?_
    refine rw_iload_n dX11_isPlace_19 1 rfl rfl ?_
    obtain ⟨q3, hq3, hf⟩ := bnd hf
    refine kS_I (ad := ad) (As := [.int ((-1000)), .int 1000, .int a1]) (st := []) dX11_isPlace_20 calX11_isFrom wm489 wm490 rfl rfl (Nat.le_of_ble_eq_true rfl) ⟨⟨by decide, by decide⟩, by decide, by decide⟩ (cmX11_isFrom hr hq3) (fun h hr => ?_)
    refine rw_if_eq (tgt := 30) dX11_isPlace_23 (by decide) (fun c4 => ?_) (fun c4 => ?_)
    · rw [if_pos c4] at hf
      refine rw_sub [] rfl ?_
      exact t_jX11_isPlace_30 (ad := ad) (G := G)  q3.2 _ hr hf
    · rw [if_neg c4] at hf
      refine rw_iconst (v := 1) dX11_isPlace_26 (by decide) ?_
      refine rw_goto (tgt := 31) dX11_isPlace_27 (by decide) ?_
      refine rw_sub [] rfl ?_
      exact t_jX11_isPlace_31 (ad := ad) (G := G)  1 q3.2 _ hr hf
def fX11_isLevel (a0 : Int32) (σ : rS) : Option (Int32 × rS) := (fX11_isFrom ((-100000)) 100000 a0 σ).bind fun q1 => if q1.1 = 0 ∨ q1.1 = 1 then some (q1.1, q1.2) else none
set_option maxHeartbeats 4000000 in
theorem cmX11_isLevel {G : rG} {ad : Nat → Nat} {a0 : Int32} {σ : rS} {h : rH} {o : (Int32 × rS)} (hr : Rep G ad σ h) (hf : fX11_isLevel a0 σ = some o) : rMT G mX11_isLevel (rm 1 0 0) [.int a0] h (qI G ad o) xN := by
  unfold fX11_isLevel at hf
  refine rw_met (by decide +kernel) rfl (Nat.le_of_ble_eq_true rfl) ?_
  show RW G _ _ _ _ 0 0 0 [(0, .int a0)] [] h
  refine rw_ldcw (v := (-100000)) dX11_isLevel_0 wm525 ?_
  refine rw_ldcw (v := 100000) dX11_isLevel_3 wm526 ?_
  refine rw_iload_n dX11_isLevel_6 0 rfl rfl ?_
  obtain ⟨q1, hq1, hf⟩ := bnd hf
  refine kS_I (ad := ad) (As := [.int ((-100000)), .int 100000, .int a0]) (st := []) dX11_isLevel_7 calX11_isFrom wm489 wm490 rfl rfl (Nat.le_of_ble_eq_true rfl) ⟨⟨by decide, by decide⟩, by decide, by decide⟩ (cmX11_isFrom hr hq1) (fun h hr => ?_)
  obtain ⟨hz2, hf⟩ := grd hf
  replace hf := Option.some.inj hf
  subst hf
  exact rw_zreturn dX11_isLevel_10 rfl (nar_z hz2) ⟨rfl, hr⟩ (by decide) (by decide)
def jX11_boring_28   (σ : rS) : Option ((Except String Int32) × rS) := some (.error "java/lang/IllegalArgumentException", σ)
set_option maxHeartbeats 4000000 in
theorem t_jX11_boring_28 {G : rG} {ad : Nat → Nat} {o : ((Except String Int32) × rS)}    (σ : rS) (h : rH) (hr : Rep G ad σ h) (hf : jX11_boring_28   σ = some o) : RW G mX11_boring (rm 6 1 6) (tI G ad o) (xT G ad o) 0 0 28 [] [] h := by
  unfold jX11_boring_28 at hf
  replace hf := Option.some.inj hf
  subst hf
  exact rw_throw (E := "java/lang/IllegalArgumentException") (names := ["java/lang/RuntimeException", "java/lang/Exception"]) dX11_boring_28 dX11_boring_31 dX11_boring_32 dX11_boring_35 rfl (by decide) (by decide +kernel) (by decide +kernel) wm823 wm81 (by decide +kernel) (by decide) (by decide) (by decide) (by decide) ⟨rfl, hr⟩
def fX11_boring (a0 : Int32) (a1 : Int32) (a2 : Int32) (σ : rS) : Option ((Except String Int32) × rS) := (fX11_isPlace a0 a1 σ).bind fun q1 => if q1.1 = 0 then jX11_boring_28 q1.2 else (fX11_isLevel a2 q1.2).bind fun q3 => if q3.1 = 0 then jX11_boring_28 q3.2 else (fX2_numberAt a0 a1 q3.2).bind fun q5 => if q5.1 = ((-1)) then (fX2_isFull q5.2).bind fun q7 => if q7.1 = 0 then vS (uI q7.2 0 12 0) fun σ9 => (fX2_stage a0 a1 a2 σ9).bind fun q10 => (fX2_keepStaged q10.2).bind fun q11 => some (.ok ((q11.2.1 1 1) - 1), q11.2) else some (.error "java/lang/UnsupportedOperationException", q7.2) else jX11_boring_28 q5.2
set_option maxHeartbeats 4000000 in
theorem cmX11_boring {G : rG} {ad : Nat → Nat} {a0 : Int32} {a1 : Int32} {a2 : Int32} {σ : rS} {h : rH} {o : ((Except String Int32) × rS)} (hr : Rep G ad σ h) (hf : fX11_boring a0 a1 a2 σ = some o) : rMT G mX11_boring (rm 6 1 6) [.ref (ad 0), .int a0, .int a1, .int a2] h (tI G ad o) (xT G ad o) := by
  unfold fX11_boring at hf
  refine rw_met (by decide +kernel) rfl (Nat.le_of_ble_eq_true rfl) ?_
  show RW G _ _ _ _ 0 0 0 [(0, .ref (ad 0)), (1, .int a0), (2, .int a1), (3, .int a2)] [] h
  refine rw_iload_n dX11_boring_0 1 rfl rfl ?_
  refine rw_iload_n dX11_boring_1 2 rfl rfl ?_
  obtain ⟨q1, hq1, hf⟩ := bnd hf
  refine kS_I (ad := ad) (As := [.int a0, .int a1]) (st := []) dX11_boring_2 calX11_isPlace wm496 wm497 rfl rfl (Nat.le_of_ble_eq_true rfl) ⟨⟨by decide, by decide⟩, by decide, by decide⟩ (cmX11_isPlace hr hq1) (fun h hr => ?_)
  refine rw_if_eq (tgt := 28) dX11_boring_5 (by decide) (fun c2 => ?_) (fun c2 => ?_)
  · rw [if_pos c2] at hf
    refine rw_sub [] rfl ?_
    exact t_jX11_boring_28 (ad := ad) (G := G)  q1.2 _ hr hf
  · rw [if_neg c2] at hf
    refine rw_iload_n dX11_boring_8 3 rfl rfl ?_
    obtain ⟨q3, hq3, hf⟩ := bnd hf
    refine kS_I (ad := ad) (As := [.int a2]) (st := []) dX11_boring_9 calX11_isLevel wm522 wm523 rfl rfl (Nat.le_of_ble_eq_true rfl) ⟨⟨by decide, by decide⟩, by decide, by decide⟩ (cmX11_isLevel hr hq3) (fun h hr => ?_)
    refine rw_if_eq (tgt := 28) dX11_boring_12 (by decide) (fun c4 => ?_) (fun c4 => ?_)
    · rw [if_pos c4] at hf
      refine rw_sub [] rfl ?_
      exact t_jX11_boring_28 (ad := ad) (G := G)  q3.2 _ hr hf
    · rw [if_neg c4] at hf
      refine rw_aload_n dX11_boring_15 0 rfl rfl ?_
      refine sg_0_0 hr dX11_boring_16 fl442 ?_
      refine rw_iload_n dX11_boring_19 1 rfl rfl ?_
      refine rw_iload_n dX11_boring_20 2 rfl rfl ?_
      obtain ⟨q5, hq5, hf⟩ := bnd hf
      refine kV_I (ad := ad) (As := [.int a0, .int a1]) (st := []) dX11_boring_21 calX2_numberAt wm822 wm735 wm736 rfl rfl (rc_1 hr) (ci := 3) (by decide) rfl rfl (Nat.le_of_ble_eq_true rfl) ⟨⟨by decide, by decide⟩, by decide, by decide⟩ (cmX2_numberAt hr hq5) (fun h hr => ?_)
      refine rw_iconst (v := (-1)) dX11_boring_24 (by decide) ?_
      refine rw_icmp_eq (tgt := 36) dX11_boring_25 (by decide) (fun c6 => ?_) (fun c6 => ?_)
      · rw [if_pos c6] at hf
        refine rw_aload_n dX11_boring_36 0 rfl rfl ?_
        refine sg_0_0 hr dX11_boring_37 fl442 ?_
        obtain ⟨q7, hq7, hf⟩ := bnd hf
        refine kV_I (ad := ad) (As := []) (st := []) dX11_boring_40 calX2_isFull wm890 wm723 wm724 rfl rfl (rc_1 hr) (ci := 3) (by decide) rfl rfl (Nat.le_of_ble_eq_true rfl) ⟨⟨by decide, by decide⟩, by decide, by decide⟩ (cmX2_isFull hr hq7) (fun h hr => ?_)
        refine rw_if_eq (tgt := 54) dX11_boring_43 (by decide) (fun c8 => ?_) (fun c8 => ?_)
        · rw [if_pos c8] at hf
          refine rw_aload_n dX11_boring_54 0 rfl rfl ?_
          refine rw_iconst (v := 0) dX11_boring_55 (by decide) ?_
          refine sp_0_12 hr dX11_boring_56 fl454 (by decide) (by decide) (fun h hr => ?_)
          refine nmS hf hr (fun σ9 hr hf => ?_)
          refine rw_aload_n dX11_boring_59 0 rfl rfl ?_
          refine sg_0_0 hr dX11_boring_60 fl442 ?_
          refine rw_iload_n dX11_boring_63 1 rfl rfl ?_
          refine rw_iload_n dX11_boring_64 2 rfl rfl ?_
          refine rw_iload_n dX11_boring_65 3 rfl rfl ?_
          obtain ⟨q10, hq10, hf⟩ := bnd hf
          refine kV_V (ad := ad) (As := [.int a0, .int a1, .int a2]) (st := []) dX11_boring_66 calX2_stage wm906 wm741 wm742 rfl rfl (rc_1 hr) (ci := 3) (by decide) rfl rfl (Nat.le_of_ble_eq_true rfl) ⟨⟨by decide, by decide⟩, by decide, by decide⟩ (cmX2_stage hr hq10) (fun h hr => ?_)
          refine rw_aload_n dX11_boring_69 0 rfl rfl ?_
          refine sg_0_0 hr dX11_boring_70 fl442 ?_
          obtain ⟨q11, hq11, hf⟩ := bnd hf
          refine kV_V (ad := ad) (As := []) (st := []) dX11_boring_73 calX2_keepStaged wm762 wm763 wm764 rfl rfl (rc_1 hr) (ci := 3) (by decide) rfl rfl (Nat.le_of_ble_eq_true rfl) ⟨⟨by decide, by decide⟩, by decide, by decide⟩ (cmX2_keepStaged hr hq11) (fun h hr => ?_)
          refine rw_aload_n dX11_boring_76 0 rfl rfl ?_
          refine sg_0_0 hr dX11_boring_77 fl442 ?_
          refine sg_1_1 hr dX11_boring_80 fl172 ?_
          refine rw_iconst (v := 1) dX11_boring_83 (by decide) ?_
          refine rw_isub dX11_boring_84 ?_
          replace hf := Option.some.inj hf
          subst hf
          exact rw_ireturn dX11_boring_85 rfl ⟨_, rfl, rfl, hr⟩ (by decide) (by decide)
        · rw [if_neg c8] at hf
          replace hf := Option.some.inj hf
          subst hf
          exact rw_throw (E := "java/lang/UnsupportedOperationException") (names := ["java/lang/RuntimeException", "java/lang/Exception"]) dX11_boring_46 dX11_boring_49 dX11_boring_50 dX11_boring_53 rfl (by decide) (by decide +kernel) (by decide +kernel) wm891 wm82 (by decide +kernel) (by decide) (by decide) (by decide) (by decide) ⟨rfl, hr⟩
      · rw [if_neg c6] at hf
        refine rw_sub [] rfl ?_
        exact t_jX11_boring_28 (ad := ad) (G := G)  q5.2 _ hr hf
def jX11_requireIndex_9   (σ : rS) : Option ((Except String Unit) × rS) := some (.error "java/lang/IndexOutOfBoundsException", σ)
set_option maxHeartbeats 4000000 in
theorem t_jX11_requireIndex_9 {G : rG} {ad : Nat → Nat} {o : ((Except String Unit) × rS)}    (σ : rS) (h : rH) (hr : Rep G ad σ h) (hf : jX11_requireIndex_9   σ = some o) : RW G mX11_requireIndex (rm 6 1 6) (tV G ad o) (xT G ad o) 0 0 9 [] [] h := by
  unfold jX11_requireIndex_9 at hf
  replace hf := Option.some.inj hf
  subst hf
  exact rw_throw (E := "java/lang/IndexOutOfBoundsException") (names := ["java/lang/RuntimeException", "java/lang/Exception"]) dX11_requireIndex_9 dX11_requireIndex_12 dX11_requireIndex_13 dX11_requireIndex_16 rfl (by decide) (by decide +kernel) (by decide +kernel) wm922 wm83 (by decide +kernel) (by decide) (by decide) (by decide) (by decide) ⟨rfl, hr⟩
def fX11_requireIndex (a0 : Int32) (a1 : Int32) (σ : rS) : Option ((Except String Unit) × rS) := if a0 < 0 then jX11_requireIndex_9 σ else if a0 < a1 then some (.ok (), σ) else jX11_requireIndex_9 σ
set_option maxHeartbeats 4000000 in
theorem cmX11_requireIndex {G : rG} {ad : Nat → Nat} {a0 : Int32} {a1 : Int32} {σ : rS} {h : rH} {o : ((Except String Unit) × rS)} (hr : Rep G ad σ h) (hf : fX11_requireIndex a0 a1 σ = some o) : rMT G mX11_requireIndex (rm 6 1 6) [.int a0, .int a1] h (tV G ad o) (xT G ad o) := by
  unfold fX11_requireIndex at hf
  refine rw_met (by decide +kernel) rfl (Nat.le_of_ble_eq_true rfl) ?_
  show RW G _ _ _ _ 0 0 0 [(0, .int a0), (1, .int a1)] [] h
  refine rw_iload_n dX11_requireIndex_0 0 rfl rfl ?_
  refine rw_if_lt (tgt := 9) dX11_requireIndex_1 (by decide) (fun c1 => ?_) (fun c1 => ?_)
  · rw [if_pos c1] at hf
    refine rw_sub [] rfl ?_
    exact t_jX11_requireIndex_9 (ad := ad) (G := G)  σ _ hr hf
  · rw [if_neg c1] at hf
    refine rw_iload_n dX11_requireIndex_4 0 rfl rfl ?_
    refine rw_iload_n dX11_requireIndex_5 1 rfl rfl ?_
    refine rw_icmp_lt (tgt := 17) dX11_requireIndex_6 (by decide) (fun c2 => ?_) (fun c2 => ?_)
    · rw [if_pos c2] at hf
      replace hf := Option.some.inj hf
      subst hf
      exact rw_return dX11_requireIndex_17 rfl ⟨_, rfl, rfl, hr⟩ (by decide) (by decide)
    · rw [if_neg c2] at hf
      refine rw_sub [] rfl ?_
      exact t_jX11_requireIndex_9 (ad := ad) (G := G)  σ _ hr hf
def fX11_requireBoring (a0 : Int32) (σ : rS) : Option ((Except String Unit) × rS) := (fX11_requireIndex a0 (σ.1 1 1) σ).bind fun q1 => match q1.1 with | .error E3 => some (.error E3, q1.2) | .ok r2 => some (.ok (), q1.2)
set_option maxHeartbeats 4000000 in
theorem cmX11_requireBoring {G : rG} {ad : Nat → Nat} {a0 : Int32} {σ : rS} {h : rH} {o : ((Except String Unit) × rS)} (hr : Rep G ad σ h) (hf : fX11_requireBoring a0 σ = some o) : rMT G mX11_requireBoring (rm 7 1 6) [.ref (ad 0), .int a0] h (tV G ad o) (xT G ad o) := by
  unfold fX11_requireBoring at hf
  refine rw_met (by decide +kernel) rfl (Nat.le_of_ble_eq_true rfl) ?_
  show RW G _ _ _ _ 0 0 0 [(0, .ref (ad 0)), (1, .int a0)] [] h
  refine rw_iload_n dX11_requireBoring_0 1 rfl rfl ?_
  refine rw_aload_n dX11_requireBoring_1 0 rfl rfl ?_
  refine sg_0_0 hr dX11_requireBoring_2 fl442 ?_
  refine sg_1_1 hr dX11_requireBoring_5 fl172 ?_
  obtain ⟨q1, hq1, hf⟩ := bnd hf
  refine kS_Vx (ad := ad) (As := [.int a0, .int (σ.1 1 1)]) (st := []) dX11_requireBoring_8 calX11_requireIndex wm919 wm920 rfl rfl (Nat.le_of_ble_eq_true rfl) ⟨⟨by decide, by decide⟩, by decide, by decide⟩ (cmX11_requireIndex hr hq1) (fun E h he hr => ?_) (fun r2 h he hr => ?_)
  · rw [he] at hf
    cases hf
    exact rx_out rfl ⟨rfl, hr⟩ (by decide) (by decide)
  rw [he] at hf
  dsimp only at hf
  replace hf := Option.some.inj hf
  subst hf
  exact rw_return dX11_requireBoring_11 rfl ⟨_, rfl, rfl, hr⟩ (by decide) (by decide)
def fX11_isKind (a0 : Int32) (σ : rS) : Option (Int32 × rS) := (fX11_isFrom 0 7 a0 σ).bind fun q1 => if q1.1 = 0 ∨ q1.1 = 1 then some (q1.1, q1.2) else none
set_option maxHeartbeats 4000000 in
theorem cmX11_isKind {G : rG} {ad : Nat → Nat} {a0 : Int32} {σ : rS} {h : rH} {o : (Int32 × rS)} (hr : Rep G ad σ h) (hf : fX11_isKind a0 σ = some o) : rMT G mX11_isKind (rm 1 0 0) [.int a0] h (qI G ad o) xN := by
  unfold fX11_isKind at hf
  refine rw_met (by decide +kernel) rfl (Nat.le_of_ble_eq_true rfl) ?_
  show RW G _ _ _ _ 0 0 0 [(0, .int a0)] [] h
  refine rw_iconst (v := 0) dX11_isKind_0 (by decide) ?_
  refine rw_bipush (v := 7) dX11_isKind_1 (by decide) ?_
  refine rw_iload_n dX11_isKind_3 0 rfl rfl ?_
  obtain ⟨q1, hq1, hf⟩ := bnd hf
  refine kS_I (ad := ad) (As := [.int 0, .int 7, .int a0]) (st := []) dX11_isKind_4 calX11_isFrom wm489 wm490 rfl rfl (Nat.le_of_ble_eq_true rfl) ⟨⟨by decide, by decide⟩, by decide, by decide⟩ (cmX11_isFrom hr hq1) (fun h hr => ?_)
  obtain ⟨hz2, hf⟩ := grd hf
  replace hf := Option.some.inj hf
  subst hf
  exact rw_zreturn dX11_isKind_7 rfl (nar_z hz2) ⟨rfl, hr⟩ (by decide) (by decide)
def fX11_isThickness (a0 : Int32) (σ : rS) : Option (Int32 × rS) := (fX11_isFrom 1 10000 a0 σ).bind fun q1 => if q1.1 = 0 ∨ q1.1 = 1 then some (q1.1, q1.2) else none
set_option maxHeartbeats 4000000 in
theorem cmX11_isThickness {G : rG} {ad : Nat → Nat} {a0 : Int32} {σ : rS} {h : rH} {o : (Int32 × rS)} (hr : Rep G ad σ h) (hf : fX11_isThickness a0 σ = some o) : rMT G mX11_isThickness (rm 1 0 0) [.int a0] h (qI G ad o) xN := by
  unfold fX11_isThickness at hf
  refine rw_met (by decide +kernel) rfl (Nat.le_of_ble_eq_true rfl) ?_
  show RW G _ _ _ _ 0 0 0 [(0, .int a0)] [] h
  refine rw_iconst (v := 1) dX11_isThickness_0 (by decide) ?_
  refine rw_sipush (v := 10000) dX11_isThickness_1 (by decide) ?_
  refine rw_iload_n dX11_isThickness_4 0 rfl rfl ?_
  obtain ⟨q1, hq1, hf⟩ := bnd hf
  refine kS_I (ad := ad) (As := [.int 1, .int 10000, .int a0]) (st := []) dX11_isThickness_5 calX11_isFrom wm489 wm490 rfl rfl (Nat.le_of_ble_eq_true rfl) ⟨⟨by decide, by decide⟩, by decide, by decide⟩ (cmX11_isFrom hr hq1) (fun h hr => ?_)
  obtain ⟨hz2, hf⟩ := grd hf
  replace hf := Option.some.inj hf
  subst hf
  exact rw_zreturn dX11_isThickness_8 rfl (nar_z hz2) ⟨rfl, hr⟩ (by decide) (by decide)
def jX11_layer_19   (σ : rS) : Option ((Except String Int32) × rS) := some (.error "java/lang/IllegalArgumentException", σ)
set_option maxHeartbeats 4000000 in
theorem t_jX11_layer_19 {G : rG} {ad : Nat → Nat} {o : ((Except String Int32) × rS)}    (σ : rS) (h : rH) (hr : Rep G ad σ h) (hf : jX11_layer_19   σ = some o) : RW G mX11_layer (rm 8 2 12) (tI G ad o) (xT G ad o) 1 6 19 [] [] h := by
  unfold jX11_layer_19 at hf
  replace hf := Option.some.inj hf
  subst hf
  exact rw_throw (E := "java/lang/IllegalArgumentException") (names := ["java/lang/RuntimeException", "java/lang/Exception"]) dX11_layer_19 dX11_layer_22 dX11_layer_23 dX11_layer_26 rfl (by decide) (by decide +kernel) (by decide +kernel) wm823 wm81 (by decide +kernel) (by decide) (by decide) (by decide) (by decide) ⟨rfl, hr⟩
def fX11_layer (a0 : Int32) (a1 : Int32) (a2 : Int32) (σ : rS) : Option ((Except String Int32) × rS) := (fX11_requireBoring a0 σ).bind fun q1 => match q1.1 with | .error E3 => some (.error E3, q1.2) | .ok r2 => (fX11_isKind a1 q1.2).bind fun q4 => if q4.1 = 0 then jX11_layer_19 q4.2 else (fX11_isThickness a2 q4.2).bind fun q6 => if q6.1 = 0 then jX11_layer_19 q6.2 else if inB a0 16 then if isBo (80 + 4 * a0.toNatClampNeg) then (if (q6.2.1 (80 + 4 * a0.toNatClampNeg) 4) < 12 then vS (uI q6.2 0 12 0) fun σ11 => if isBo (80 + 4 * a0.toNatClampNeg) then (fX1_addLayer (80 + 4 * a0.toNatClampNeg) a1 a2 σ11).bind fun q12 => if isBo (80 + 4 * a0.toNatClampNeg) then some (.ok ((q12.2.1 (80 + 4 * a0.toNatClampNeg) 4) - 1), q12.2) else none else none else some (.error "java/lang/UnsupportedOperationException", q6.2)) else none else none
set_option maxHeartbeats 4000000 in
theorem cmX11_layer {G : rG} {ad : Nat → Nat} {a0 : Int32} {a1 : Int32} {a2 : Int32} {σ : rS} {h : rH} {o : ((Except String Int32) × rS)} (hr : Rep G ad σ h) (hf : fX11_layer a0 a1 a2 σ = some o) : rMT G mX11_layer (rm 8 2 12) [.ref (ad 0), .int a0, .int a1, .int a2] h (tI G ad o) (xT G ad o) := by
  unfold fX11_layer at hf
  refine rw_met (by decide +kernel) rfl (Nat.le_of_ble_eq_true rfl) ?_
  show RW G _ _ _ _ 0 0 0 [(0, .ref (ad 0)), (1, .int a0), (2, .int a1), (3, .int a2)] [] h
  refine rw_aload_n dX11_layer_0 0 rfl rfl ?_
  refine rw_iload_n dX11_layer_1 1 rfl rfl ?_
  obtain ⟨q1, hq1, hf⟩ := bnd hf
  refine kV_Vx (ad := ad) (As := [.int a0]) (st := []) dX11_layer_2 calX11_requireBoring wm915 wm917 wm23 rfl rfl (rc_0 hr) (ci := 11) (by decide) rfl rfl (Nat.le_of_ble_eq_true rfl) ⟨⟨by decide, by decide⟩, by decide, by decide⟩ (cmX11_requireBoring hr hq1) (fun E h he hr => ?_) (fun r2 h he hr => ?_)
  · rw [he] at hf
    cases hf
    exact rx_out rfl ⟨rfl, hr⟩ (by decide) (by decide)
  rw [he] at hf
  dsimp only at hf
  refine rw_iload_n dX11_layer_5 2 rfl rfl ?_
  obtain ⟨q4, hq4, hf⟩ := bnd hf
  refine kS_I (ad := ad) (As := [.int a1]) (st := []) dX11_layer_6 calX11_isKind wm486 wm487 rfl rfl (Nat.le_of_ble_eq_true rfl) ⟨⟨by decide, by decide⟩, by decide, by decide⟩ (cmX11_isKind hr hq4) (fun h hr => ?_)
  refine rw_if_eq (tgt := 19) dX11_layer_9 (by decide) (fun c5 => ?_) (fun c5 => ?_)
  · rw [if_pos c5] at hf
    refine rw_sub [] rfl ?_
    exact t_jX11_layer_19 (ad := ad) (G := G)  q4.2 _ hr hf
  · rw [if_neg c5] at hf
    refine rw_iload_n dX11_layer_12 3 rfl rfl ?_
    obtain ⟨q6, hq6, hf⟩ := bnd hf
    refine kS_I (ad := ad) (As := [.int a2]) (st := []) dX11_layer_13 calX11_isThickness wm937 wm938 rfl rfl (Nat.le_of_ble_eq_true rfl) ⟨⟨by decide, by decide⟩, by decide, by decide⟩ (cmX11_isThickness hr hq6) (fun h hr => ?_)
    refine rw_if_ne (tgt := 27) dX11_layer_16 (by decide) (fun c7 => ?_) (fun c7 => ?_)
    · rw [if_neg c7] at hf
      refine rw_aload_n dX11_layer_27 0 rfl rfl ?_
      refine sg_0_0 hr dX11_layer_28 fl442 ?_
      refine sg_1_0 hr dX11_layer_31 fl167 ?_
      refine rw_iload_n dX11_layer_34 1 rfl rfl ?_
      obtain ⟨hi8, hf⟩ := grd hf
      refine sa_2 hr dX11_layer_35 (inB_in hi8) ?_
      refine rw_astore (lv2 := [(4, .ref (ad (80 + 4 * a0.toNatClampNeg))), (0, .ref (ad 0)), (1, .int a0), (2, .int a1), (3, .int a2)]) dX11_layer_36 (by decide) rfl ?_
      refine rw_aload dX11_layer_38 0 rfl ?_
      obtain ⟨hp9, hf⟩ := grd hf
      refine sg_Bo_4 hr dX11_layer_40 fl149 hp9 ?_
      refine rw_bipush (v := 12) dX11_layer_43 (by decide) ?_
      refine rw_icmp_lt (tgt := 56) dX11_layer_45 (by decide) (fun c10 => ?_) (fun c10 => ?_)
      · rw [if_pos c10] at hf
        refine rw_aload_n dX11_layer_56 1 rfl rfl ?_
        refine rw_iconst (v := 0) dX11_layer_57 (by decide) ?_
        refine sp_0_12 hr dX11_layer_58 fl454 (by decide) (by decide) (fun h hr => ?_)
        refine nmS hf hr (fun σ11 hr hf => ?_)
        refine rw_aload dX11_layer_61 0 rfl ?_
        refine rw_iload_n dX11_layer_63 3 rfl rfl ?_
        refine rw_iload_n dX11_layer_64 4 rfl rfl ?_
        obtain ⟨hp13, hf⟩ := grd hf
        obtain ⟨q12, hq12, hf⟩ := bnd hf
        refine kV_V (ad := ad) (As := [.int a1, .int a2]) (st := []) dX11_layer_65 calX1_addLayer wm940 wm759 wm760 rfl rfl (rc_Bo hr hp13) (ci := 2) (by decide) rfl rfl (Nat.le_of_ble_eq_true rfl) ⟨⟨by decide, by decide⟩, by decide, by decide⟩ (cmX1_addLayer hr hq12) (fun h hr => ?_)
        refine rw_aload dX11_layer_68 0 rfl ?_
        obtain ⟨hp14, hf⟩ := grd hf
        refine sg_Bo_4 hr dX11_layer_70 fl149 hp14 ?_
        refine rw_iconst (v := 1) dX11_layer_73 (by decide) ?_
        refine rw_isub dX11_layer_74 ?_
        replace hf := Option.some.inj hf
        subst hf
        exact rw_ireturn dX11_layer_75 rfl ⟨_, rfl, rfl, hr⟩ (by decide) (by decide)
      · rw [if_neg c10] at hf
        replace hf := Option.some.inj hf
        subst hf
        exact rw_throw (E := "java/lang/UnsupportedOperationException") (names := ["java/lang/RuntimeException", "java/lang/Exception"]) dX11_layer_48 dX11_layer_51 dX11_layer_52 dX11_layer_55 rfl (by decide) (by decide +kernel) (by decide +kernel) wm891 wm82 (by decide +kernel) (by decide) (by decide) (by decide) (by decide) ⟨rfl, hr⟩
    · rw [if_pos c7] at hf
      refine rw_sub [] rfl ?_
      exact t_jX11_layer_19 (ad := ad) (G := G)  q6.2 _ hr hf
def jX11_age_17   (σ : rS) : Option (Int32 × rS) := some (0, σ)
set_option maxHeartbeats 4000000 in
theorem t_jX11_age_17 {G : rG} {ad : Nat → Nat} {o : (Int32 × rS)}    (σ : rS) (h : rH) (hr : Rep G ad σ h) (hf : jX11_age_17   σ = some o) : RW G mX11_age (rm 2 0 0) (qI G ad o) xN 0 0 17 [] [] h := by
  unfold jX11_age_17 at hf
  refine rw_iconst (v := 0) dX11_age_17 (by decide) ?_
  replace hf := Option.some.inj hf
  subst hf
  exact rw_zreturn dX11_age_18 rfl (by decide) ⟨rfl, hr⟩ (by decide) (by decide)
def fX11_age (a0 : Int32) (a1 : Int32) (σ : rS) : Option (Int32 × rS) := (fX11_isKind a0 σ).bind fun q1 => if q1.1 = 0 then jX11_age_17 q1.2 else (fX11_isFrom 0 99 a1 q1.2).bind fun q3 => if q3.1 = 0 then jX11_age_17 q3.2 else vS (uI q3.2 0 12 0) fun σ5 => if inB a0 8 then vS (uA σ5 41 a0.toNatClampNeg a1) fun σ7 => some (1, σ7) else none
set_option maxHeartbeats 4000000 in
theorem cmX11_age {G : rG} {ad : Nat → Nat} {a0 : Int32} {a1 : Int32} {σ : rS} {h : rH} {o : (Int32 × rS)} (hr : Rep G ad σ h) (hf : fX11_age a0 a1 σ = some o) : rMT G mX11_age (rm 2 0 0) [.ref (ad 0), .int a0, .int a1] h (qI G ad o) xN := by
  unfold fX11_age at hf
  refine rw_met (by decide +kernel) rfl (Nat.le_of_ble_eq_true rfl) ?_
  show RW G _ _ _ _ 0 0 0 [(0, .ref (ad 0)), (1, .int a0), (2, .int a1)] [] h
  refine rw_iload_n dX11_age_0 1 rfl rfl ?_
  obtain ⟨q1, hq1, hf⟩ := bnd hf
  refine kS_I (ad := ad) (As := [.int a0]) (st := []) dX11_age_1 calX11_isKind wm486 wm487 rfl rfl (Nat.le_of_ble_eq_true rfl) ⟨⟨by decide, by decide⟩, by decide, by decide⟩ (cmX11_isKind hr hq1) (fun h hr => ?_)
  refine rw_if_eq (tgt := 17) dX11_age_4 (by decide) (fun c2 => ?_) (fun c2 => ?_)
  · rw [if_pos c2] at hf
    refine rw_sub [] rfl ?_
    exact t_jX11_age_17 (ad := ad) (G := G)  q1.2 _ hr hf
  · rw [if_neg c2] at hf
    refine rw_iconst (v := 0) dX11_age_7 (by decide) ?_
    refine rw_bipush (v := 99) dX11_age_8 (by decide) ?_
    refine rw_iload_n dX11_age_10 2 rfl rfl ?_
    obtain ⟨q3, hq3, hf⟩ := bnd hf
    refine kS_I (ad := ad) (As := [.int 0, .int 99, .int a1]) (st := []) dX11_age_11 calX11_isFrom wm489 wm490 rfl rfl (Nat.le_of_ble_eq_true rfl) ⟨⟨by decide, by decide⟩, by decide, by decide⟩ (cmX11_isFrom hr hq3) (fun h hr => ?_)
    refine rw_if_ne (tgt := 19) dX11_age_14 (by decide) (fun c4 => ?_) (fun c4 => ?_)
    · rw [if_neg c4] at hf
      refine rw_aload_n dX11_age_19 0 rfl rfl ?_
      refine rw_iconst (v := 0) dX11_age_20 (by decide) ?_
      refine sp_0_12 hr dX11_age_21 fl454 (by decide) (by decide) (fun h hr => ?_)
      refine nmS hf hr (fun σ5 hr hf => ?_)
      refine rw_aload_n dX11_age_24 0 rfl rfl ?_
      refine sg_0_9 hr dX11_age_25 fl451 ?_
      refine rw_iload_n dX11_age_28 1 rfl rfl ?_
      refine rw_iload_n dX11_age_29 2 rfl rfl ?_
      obtain ⟨hi6, hf⟩ := grd hf
      refine ss_41 hr dX11_age_30 (inB_in hi6) (fun h hr => ?_)
      refine nmS hf hr (fun σ7 hr hf => ?_)
      refine rw_iconst (v := 1) dX11_age_31 (by decide) ?_
      replace hf := Option.some.inj hf
      subst hf
      exact rw_zreturn dX11_age_32 rfl (by decide) ⟨rfl, hr⟩ (by decide) (by decide)
    · rw [if_pos c4] at hf
      refine rw_sub [] rfl ?_
      exact t_jX11_age_17 (ad := ad) (G := G)  q3.2 _ hr hf
def jX11_fault_52   (σ : rS) : Option (Int32 × rS) := some (0, σ)
set_option maxHeartbeats 4000000 in
theorem t_jX11_fault_52 {G : rG} {ad : Nat → Nat} {o : (Int32 × rS)}    (σ : rS) (h : rH) (hr : Rep G ad σ h) (hf : jX11_fault_52   σ = some o) : RW G mX11_fault (rm 2 0 0) (qI G ad o) xN 0 0 52 [] [] h := by
  unfold jX11_fault_52 at hf
  refine rw_iconst (v := 0) dX11_fault_52 (by decide) ?_
  replace hf := Option.some.inj hf
  subst hf
  exact rw_zreturn dX11_fault_53 rfl (by decide) ⟨rfl, hr⟩ (by decide) (by decide)
def jX11_fault_33  (v1 : Int32) (v2 : Int32) (v3 : Int32) (v4 : Int32) (s0 : Int32) (σ : rS) : Option (Int32 × rS) := if s0 = 0 then jX11_fault_52 σ else if (σ.1 3 2) < 8 then vS (uI σ 0 12 0) fun σ9 => (fX3_add v1 v2 v3 v4 σ9).bind fun q10 => some (1, q10.2) else jX11_fault_52 σ
set_option maxHeartbeats 4000000 in
theorem t_jX11_fault_33 {G : rG} {ad : Nat → Nat} {o : (Int32 × rS)}   (v1 : Int32) (v2 : Int32) (v3 : Int32) (v4 : Int32) (s0 : Int32) (σ : rS) (h : rH) (hr : Rep G ad σ h) (hf : jX11_fault_33  v1 v2 v3 v4 s0 σ = some o) : RW G mX11_fault (rm 2 0 0) (qI G ad o) xN 0 0 33 [(0, .ref (ad 0)), (1, .int v1), (2, .int v2), (3, .int v3), (4, .int v4)] [.int s0] h := by
  unfold jX11_fault_33 at hf
  refine rw_istore (lv2 := [(5, .int s0), (0, .ref (ad 0)), (1, .int v1), (2, .int v2), (3, .int v3), (4, .int v4)]) dX11_fault_33 (by decide) rfl ?_
  refine rw_iload dX11_fault_35 0 rfl ?_
  refine rw_if_eq (tgt := 52) dX11_fault_37 (by decide) (fun c7 => ?_) (fun c7 => ?_)
  · rw [if_pos c7] at hf
    refine rw_sub [] rfl ?_
    exact t_jX11_fault_52 (ad := ad) (G := G)  σ _ hr hf
  · rw [if_neg c7] at hf
    refine rw_aload_n dX11_fault_40 1 rfl rfl ?_
    refine sg_0_1 hr dX11_fault_41 fl443 ?_
    refine sg_3_2 hr dX11_fault_44 fl194 ?_
    refine rw_bipush (v := 8) dX11_fault_47 (by decide) ?_
    refine rw_icmp_lt (tgt := 54) dX11_fault_49 (by decide) (fun c8 => ?_) (fun c8 => ?_)
    · rw [if_pos c8] at hf
      refine rw_aload_n dX11_fault_54 1 rfl rfl ?_
      refine rw_iconst (v := 0) dX11_fault_55 (by decide) ?_
      refine sp_0_12 hr dX11_fault_56 fl454 (by decide) (by decide) (fun h hr => ?_)
      refine nmS hf hr (fun σ9 hr hf => ?_)
      refine rw_aload_n dX11_fault_59 1 rfl rfl ?_
      refine sg_0_1 hr dX11_fault_60 fl443 ?_
      refine rw_iload_n dX11_fault_63 2 rfl rfl ?_
      refine rw_iload_n dX11_fault_64 3 rfl rfl ?_
      refine rw_iload_n dX11_fault_65 4 rfl rfl ?_
      refine rw_iload dX11_fault_66 5 rfl ?_
      obtain ⟨q10, hq10, hf⟩ := bnd hf
      refine kV_V (ad := ad) (As := [.int v1, .int v2, .int v3, .int v4]) (st := []) dX11_fault_68 calX3_add wm499 wm500 wm501 rfl rfl (rc_3 hr) (ci := 4) (by decide) rfl rfl (Nat.le_of_ble_eq_true rfl) ⟨⟨by decide, by decide⟩, by decide, by decide⟩ (cmX3_add hr hq10) (fun h hr => ?_)
      refine rw_iconst (v := 1) dX11_fault_71 (by decide) ?_
      replace hf := Option.some.inj hf
      subst hf
      exact rw_zreturn dX11_fault_72 rfl (by decide) ⟨rfl, hr⟩ (by decide) (by decide)
    · rw [if_neg c8] at hf
      refine rw_sub [] rfl ?_
      exact t_jX11_fault_52 (ad := ad) (G := G)  σ _ hr hf
def jX11_fault_32  (v1 : Int32) (v2 : Int32) (v3 : Int32) (v4 : Int32) (σ : rS) : Option (Int32 × rS) := jX11_fault_33 v1 v2 v3 v4 0 σ
set_option maxHeartbeats 4000000 in
theorem t_jX11_fault_32 {G : rG} {ad : Nat → Nat} {o : (Int32 × rS)}   (v1 : Int32) (v2 : Int32) (v3 : Int32) (v4 : Int32) (σ : rS) (h : rH) (hr : Rep G ad σ h) (hf : jX11_fault_32  v1 v2 v3 v4 σ = some o) : RW G mX11_fault (rm 2 0 0) (qI G ad o) xN 0 0 32 [(0, .ref (ad 0)), (1, .int v1), (2, .int v2), (3, .int v3), (4, .int v4)] [] h := by
  unfold jX11_fault_32 at hf
  refine rw_iconst (v := 0) dX11_fault_32 (by decide) ?_
  exact t_jX11_fault_33 (ad := ad) (G := G)  v1 v2 v3 v4 0 σ _ hr hf
def jX11_fault_28  (v1 : Int32) (v2 : Int32) (v3 : Int32) (v4 : Int32) (σ : rS) : Option (Int32 × rS) := jX11_fault_33 v1 v2 v3 v4 1 σ
set_option maxHeartbeats 4000000 in
theorem t_jX11_fault_28 {G : rG} {ad : Nat → Nat} {o : (Int32 × rS)}   (v1 : Int32) (v2 : Int32) (v3 : Int32) (v4 : Int32) (σ : rS) (h : rH) (hr : Rep G ad σ h) (hf : jX11_fault_28  v1 v2 v3 v4 σ = some o) : RW G mX11_fault (rm 2 0 0) (qI G ad o) xN 0 0 28 [(0, .ref (ad 0)), (1, .int v1), (2, .int v2), (3, .int v3), (4, .int v4)] [] h := by
  unfold jX11_fault_28 at hf
  refine rw_iconst (v := 1) dX11_fault_28 (by decide) ?_
  refine rw_goto (tgt := 33) dX11_fault_29 (by decide) ?_
  exact t_jX11_fault_33 (ad := ad) (G := G)  v1 v2 v3 v4 1 σ _ hr hf
def fX11_fault (a0 : Int32) (a1 : Int32) (a2 : Int32) (a3 : Int32) (σ : rS) : Option (Int32 × rS) := (fX11_isPlace a0 a1 σ).bind fun q1 => if q1.1 = 0 then jX11_fault_32 a0 a1 a2 a3 q1.2 else (fX11_isPlace a2 a3 q1.2).bind fun q3 => if q3.1 = 0 then jX11_fault_32 a0 a1 a2 a3 q3.2 else if a0 = a2 then if a1 = a3 then jX11_fault_32 a0 a1 a2 a3 q3.2 else jX11_fault_28 a0 a1 a2 a3 q3.2 else jX11_fault_28 a0 a1 a2 a3 q3.2
set_option maxHeartbeats 4000000 in
theorem cmX11_fault {G : rG} {ad : Nat → Nat} {a0 : Int32} {a1 : Int32} {a2 : Int32} {a3 : Int32} {σ : rS} {h : rH} {o : (Int32 × rS)} (hr : Rep G ad σ h) (hf : fX11_fault a0 a1 a2 a3 σ = some o) : rMT G mX11_fault (rm 2 0 0) [.ref (ad 0), .int a0, .int a1, .int a2, .int a3] h (qI G ad o) xN := by
  unfold fX11_fault at hf
  refine rw_met (by decide +kernel) rfl (Nat.le_of_ble_eq_true rfl) ?_
  show RW G _ _ _ _ 0 0 0 [(0, .ref (ad 0)), (1, .int a0), (2, .int a1), (3, .int a2), (4, .int a3)] [] h
  refine rw_iload_n dX11_fault_0 1 rfl rfl ?_
  refine rw_iload_n dX11_fault_1 2 rfl rfl ?_
  obtain ⟨q1, hq1, hf⟩ := bnd hf
  refine kS_I (ad := ad) (As := [.int a0, .int a1]) (st := []) dX11_fault_2 calX11_isPlace wm496 wm497 rfl rfl (Nat.le_of_ble_eq_true rfl) ⟨⟨by decide, by decide⟩, by decide, by decide⟩ (cmX11_isPlace hr hq1) (fun h hr => ?_)
  refine rw_if_eq (tgt := 32) dX11_fault_5 (by decide) (fun c2 => ?_) (fun c2 => ?_)
  · rw [if_pos c2] at hf
    exact t_jX11_fault_32 (ad := ad) (G := G)  a0 a1 a2 a3 q1.2 _ hr hf
  · rw [if_neg c2] at hf
    refine rw_iload_n dX11_fault_8 3 rfl rfl ?_
    refine rw_iload dX11_fault_9 4 rfl ?_
    obtain ⟨q3, hq3, hf⟩ := bnd hf
    refine kS_I (ad := ad) (As := [.int a2, .int a3]) (st := []) dX11_fault_11 calX11_isPlace wm496 wm497 rfl rfl (Nat.le_of_ble_eq_true rfl) ⟨⟨by decide, by decide⟩, by decide, by decide⟩ (cmX11_isPlace hr hq3) (fun h hr => ?_)
    refine rw_if_eq (tgt := 32) dX11_fault_14 (by decide) (fun c4 => ?_) (fun c4 => ?_)
    · rw [if_pos c4] at hf
      exact t_jX11_fault_32 (ad := ad) (G := G)  a0 a1 a2 a3 q3.2 _ hr hf
    · rw [if_neg c4] at hf
      refine rw_iload_n dX11_fault_17 1 rfl rfl ?_
      refine rw_iload_n dX11_fault_18 3 rfl rfl ?_
      refine rw_icmp_ne (tgt := 28) dX11_fault_19 (by decide) (fun c5 => ?_) (fun c5 => ?_)
      · rw [if_neg c5] at hf
        exact t_jX11_fault_28 (ad := ad) (G := G)  a0 a1 a2 a3 q3.2 _ hr hf
      · rw [if_pos c5] at hf
        refine rw_iload_n dX11_fault_22 2 rfl rfl ?_
        refine rw_iload dX11_fault_23 4 rfl ?_
        refine rw_icmp_eq (tgt := 32) dX11_fault_25 (by decide) (fun c6 => ?_) (fun c6 => ?_)
        · rw [if_pos c6] at hf
          exact t_jX11_fault_32 (ad := ad) (G := G)  a0 a1 a2 a3 q3.2 _ hr hf
        · rw [if_neg c6] at hf
          exact t_jX11_fault_28 (ad := ad) (G := G)  a0 a1 a2 a3 q3.2 _ hr hf
def fX11_lens (a0 : Int32) (σ : rS) : Option (Int32 × rS) := (fX11_isFrom 1 100 a0 σ).bind fun q1 => if q1.1 = 0 then some (0, q1.2) else vS (uI q1.2 0 10 a0) fun σ3 => some (1, σ3)
set_option maxHeartbeats 4000000 in
theorem cmX11_lens {G : rG} {ad : Nat → Nat} {a0 : Int32} {σ : rS} {h : rH} {o : (Int32 × rS)} (hr : Rep G ad σ h) (hf : fX11_lens a0 σ = some o) : rMT G mX11_lens (rm 1 0 0) [.ref (ad 0), .int a0] h (qI G ad o) xN := by
  unfold fX11_lens at hf
  refine rw_met (by decide +kernel) rfl (Nat.le_of_ble_eq_true rfl) ?_
  show RW G _ _ _ _ 0 0 0 [(0, .ref (ad 0)), (1, .int a0)] [] h
  refine rw_iconst (v := 1) dX11_lens_0 (by decide) ?_
  refine rw_bipush (v := 100) dX11_lens_1 (by decide) ?_
  refine rw_iload_n dX11_lens_3 1 rfl rfl ?_
  obtain ⟨q1, hq1, hf⟩ := bnd hf
  refine kS_I (ad := ad) (As := [.int 1, .int 100, .int a0]) (st := []) dX11_lens_4 calX11_isFrom wm489 wm490 rfl rfl (Nat.le_of_ble_eq_true rfl) ⟨⟨by decide, by decide⟩, by decide, by decide⟩ (cmX11_isFrom hr hq1) (fun h hr => ?_)
  refine rw_if_ne (tgt := 12) dX11_lens_7 (by decide) (fun c2 => ?_) (fun c2 => ?_)
  · rw [if_neg c2] at hf
    refine rw_aload_n dX11_lens_12 0 rfl rfl ?_
    refine rw_iload_n dX11_lens_13 1 rfl rfl ?_
    refine sp_0_10 hr dX11_lens_14 fl452 (fun h hr => ?_)
    refine nmS hf hr (fun σ3 hr hf => ?_)
    refine rw_iconst (v := 1) dX11_lens_17 (by decide) ?_
    replace hf := Option.some.inj hf
    subst hf
    exact rw_zreturn dX11_lens_18 rfl (by decide) ⟨rfl, hr⟩ (by decide) (by decide)
  · rw [if_pos c2] at hf
    refine rw_iconst (v := 0) dX11_lens_10 (by decide) ?_
    replace hf := Option.some.inj hf
    subst hf
    exact rw_zreturn dX11_lens_11 rfl (by decide) ⟨rfl, hr⟩ (by decide) (by decide)
def fX11_isWeek (a0 : Int32) (σ : rS) : Option (Int32 × rS) := (fX11_isFrom 0 99 a0 σ).bind fun q1 => if q1.1 = 0 ∨ q1.1 = 1 then some (q1.1, q1.2) else none
set_option maxHeartbeats 4000000 in
theorem cmX11_isWeek {G : rG} {ad : Nat → Nat} {a0 : Int32} {σ : rS} {h : rH} {o : (Int32 × rS)} (hr : Rep G ad σ h) (hf : fX11_isWeek a0 σ = some o) : rMT G mX11_isWeek (rm 1 0 0) [.int a0] h (qI G ad o) xN := by
  unfold fX11_isWeek at hf
  refine rw_met (by decide +kernel) rfl (Nat.le_of_ble_eq_true rfl) ?_
  show RW G _ _ _ _ 0 0 0 [(0, .int a0)] [] h
  refine rw_iconst (v := 0) dX11_isWeek_0 (by decide) ?_
  refine rw_bipush (v := 99) dX11_isWeek_1 (by decide) ?_
  refine rw_iload_n dX11_isWeek_3 0 rfl rfl ?_
  obtain ⟨q1, hq1, hf⟩ := bnd hf
  refine kS_I (ad := ad) (As := [.int 0, .int 99, .int a0]) (st := []) dX11_isWeek_4 calX11_isFrom wm489 wm490 rfl rfl (Nat.le_of_ble_eq_true rfl) ⟨⟨by decide, by decide⟩, by decide, by decide⟩ (cmX11_isFrom hr hq1) (fun h hr => ?_)
  obtain ⟨hz2, hf⟩ := grd hf
  replace hf := Option.some.inj hf
  subst hf
  exact rw_zreturn dX11_isWeek_7 rfl (nar_z hz2) ⟨rfl, hr⟩ (by decide) (by decide)
def jX11_water_25   (σ : rS) : Option (Int32 × rS) := some (0, σ)
set_option maxHeartbeats 4000000 in
theorem t_jX11_water_25 {G : rG} {ad : Nat → Nat} {o : (Int32 × rS)}    (σ : rS) (h : rH) (hr : Rep G ad σ h) (hf : jX11_water_25   σ = some o) : RW G mX11_water (rm 2 0 0) (qI G ad o) xN 0 0 25 [] [] h := by
  unfold jX11_water_25 at hf
  refine rw_iconst (v := 0) dX11_water_25 (by decide) ?_
  replace hf := Option.some.inj hf
  subst hf
  exact rw_zreturn dX11_water_26 rfl (by decide) ⟨rfl, hr⟩ (by decide) (by decide)
def fX11_water (a0 : Int32) (a1 : Int32) (a2 : Int32) (σ : rS) : Option (Int32 × rS) := (fX2_has a0 σ).bind fun q1 => if q1.1 = 0 then jX11_water_25 q1.2 else (fX11_isWeek a1 q1.2).bind fun q3 => if q3.1 = 0 then jX11_water_25 q3.2 else (fX11_isLevel a2 q3.2).bind fun q5 => if q5.1 = 0 then jX11_water_25 q5.2 else (fX10_put a0 a1 a2 q5.2).bind fun q7 => if q7.1 = 0 ∨ q7.1 = 1 then some (q7.1, q7.2) else none
set_option maxHeartbeats 4000000 in
theorem cmX11_water {G : rG} {ad : Nat → Nat} {a0 : Int32} {a1 : Int32} {a2 : Int32} {σ : rS} {h : rH} {o : (Int32 × rS)} (hr : Rep G ad σ h) (hf : fX11_water a0 a1 a2 σ = some o) : rMT G mX11_water (rm 2 0 0) [.ref (ad 0), .int a0, .int a1, .int a2] h (qI G ad o) xN := by
  unfold fX11_water at hf
  refine rw_met (by decide +kernel) rfl (Nat.le_of_ble_eq_true rfl) ?_
  show RW G _ _ _ _ 0 0 0 [(0, .ref (ad 0)), (1, .int a0), (2, .int a1), (3, .int a2)] [] h
  refine rw_aload_n dX11_water_0 0 rfl rfl ?_
  refine sg_0_0 hr dX11_water_1 fl442 ?_
  refine rw_iload_n dX11_water_4 1 rfl rfl ?_
  obtain ⟨q1, hq1, hf⟩ := bnd hf
  refine kV_I (ad := ad) (As := [.int a0]) (st := []) dX11_water_5 calX2_has wm515 wm516 wm517 rfl rfl (rc_1 hr) (ci := 3) (by decide) rfl rfl (Nat.le_of_ble_eq_true rfl) ⟨⟨by decide, by decide⟩, by decide, by decide⟩ (cmX2_has hr hq1) (fun h hr => ?_)
  refine rw_if_eq (tgt := 25) dX11_water_8 (by decide) (fun c2 => ?_) (fun c2 => ?_)
  · rw [if_pos c2] at hf
    refine rw_sub [] rfl ?_
    exact t_jX11_water_25 (ad := ad) (G := G)  q1.2 _ hr hf
  · rw [if_neg c2] at hf
    refine rw_iload_n dX11_water_11 2 rfl rfl ?_
    obtain ⟨q3, hq3, hf⟩ := bnd hf
    refine kS_I (ad := ad) (As := [.int a1]) (st := []) dX11_water_12 calX11_isWeek wm519 wm520 rfl rfl (Nat.le_of_ble_eq_true rfl) ⟨⟨by decide, by decide⟩, by decide, by decide⟩ (cmX11_isWeek hr hq3) (fun h hr => ?_)
    refine rw_if_eq (tgt := 25) dX11_water_15 (by decide) (fun c4 => ?_) (fun c4 => ?_)
    · rw [if_pos c4] at hf
      refine rw_sub [] rfl ?_
      exact t_jX11_water_25 (ad := ad) (G := G)  q3.2 _ hr hf
    · rw [if_neg c4] at hf
      refine rw_iload_n dX11_water_18 3 rfl rfl ?_
      obtain ⟨q5, hq5, hf⟩ := bnd hf
      refine kS_I (ad := ad) (As := [.int a2]) (st := []) dX11_water_19 calX11_isLevel wm522 wm523 rfl rfl (Nat.le_of_ble_eq_true rfl) ⟨⟨by decide, by decide⟩, by decide, by decide⟩ (cmX11_isLevel hr hq5) (fun h hr => ?_)
      refine rw_if_ne (tgt := 27) dX11_water_22 (by decide) (fun c6 => ?_) (fun c6 => ?_)
      · rw [if_neg c6] at hf
        refine rw_aload_n dX11_water_27 0 rfl rfl ?_
        refine sg_0_2 hr dX11_water_28 fl444 ?_
        refine rw_iload_n dX11_water_31 1 rfl rfl ?_
        refine rw_iload_n dX11_water_32 2 rfl rfl ?_
        refine rw_iload_n dX11_water_33 3 rfl rfl ?_
        obtain ⟨q7, hq7, hf⟩ := bnd hf
        refine kV_I (ad := ad) (As := [.int a0, .int a1, .int a2]) (st := []) dX11_water_34 calX10_put wm527 wm528 wm529 rfl rfl (rc_6 hr) (ci := 10) (by decide) rfl rfl (Nat.le_of_ble_eq_true rfl) ⟨⟨by decide, by decide⟩, by decide, by decide⟩ (cmX10_put hr hq7) (fun h hr => ?_)
        obtain ⟨hz8, hf⟩ := grd hf
        replace hf := Option.some.inj hf
        subst hf
        exact rw_zreturn dX11_water_37 rfl (nar_z hz8) ⟨rfl, hr⟩ (by decide) (by decide)
      · rw [if_pos c6] at hf
        refine rw_sub [] rfl ?_
        exact t_jX11_water_25 (ad := ad) (G := G)  q5.2 _ hr hf
def fX11_within (a0 : Int32) (σ : rS) : Option (Int32 × rS) := (fX11_isFrom 0 10000 a0 σ).bind fun q1 => if q1.1 = 0 then some (0, q1.2) else vS (uI q1.2 0 11 a0) fun σ3 => some (1, σ3)
set_option maxHeartbeats 4000000 in
theorem cmX11_within {G : rG} {ad : Nat → Nat} {a0 : Int32} {σ : rS} {h : rH} {o : (Int32 × rS)} (hr : Rep G ad σ h) (hf : fX11_within a0 σ = some o) : rMT G mX11_within (rm 1 0 0) [.ref (ad 0), .int a0] h (qI G ad o) xN := by
  unfold fX11_within at hf
  refine rw_met (by decide +kernel) rfl (Nat.le_of_ble_eq_true rfl) ?_
  show RW G _ _ _ _ 0 0 0 [(0, .ref (ad 0)), (1, .int a0)] [] h
  refine rw_iconst (v := 0) dX11_within_0 (by decide) ?_
  refine rw_sipush (v := 10000) dX11_within_1 (by decide) ?_
  refine rw_iload_n dX11_within_4 1 rfl rfl ?_
  obtain ⟨q1, hq1, hf⟩ := bnd hf
  refine kS_I (ad := ad) (As := [.int 0, .int 10000, .int a0]) (st := []) dX11_within_5 calX11_isFrom wm489 wm490 rfl rfl (Nat.le_of_ble_eq_true rfl) ⟨⟨by decide, by decide⟩, by decide, by decide⟩ (cmX11_isFrom hr hq1) (fun h hr => ?_)
  refine rw_if_ne (tgt := 13) dX11_within_8 (by decide) (fun c2 => ?_) (fun c2 => ?_)
  · rw [if_neg c2] at hf
    refine rw_aload_n dX11_within_13 0 rfl rfl ?_
    refine rw_iload_n dX11_within_14 1 rfl rfl ?_
    refine sp_0_11 hr dX11_within_15 fl453 (fun h hr => ?_)
    refine nmS hf hr (fun σ3 hr hf => ?_)
    refine rw_iconst (v := 1) dX11_within_18 (by decide) ?_
    replace hf := Option.some.inj hf
    subst hf
    exact rw_zreturn dX11_within_19 rfl (by decide) ⟨rfl, hr⟩ (by decide) (by decide)
  · rw [if_pos c2] at hf
    refine rw_iconst (v := 0) dX11_within_11 (by decide) ?_
    replace hf := Option.some.inj hf
    subst hf
    exact rw_zreturn dX11_within_12 rfl (by decide) ⟨rfl, hr⟩ (by decide) (by decide)
def fX11_run  (σ : rS) : Option (Int32 × rS) := (fX6_lay σ).bind fun q1 => (fX5_findAll q1.2).bind fun q2 => (fX0_gather q2.2).bind fun q3 => vS (uI q3.2 0 12 1) fun σ4 => some ((σ4.1 25 5), σ4)
set_option maxHeartbeats 4000000 in
theorem cmX11_run {G : rG} {ad : Nat → Nat}  {σ : rS} {h : rH} {o : (Int32 × rS)} (hr : Rep G ad σ h) (hf : fX11_run  σ = some o) : rMT G mX11_run (rm 6 0 0) [.ref (ad 0)] h (qI G ad o) xN := by
  unfold fX11_run at hf
  refine rw_met (by decide +kernel) rfl (Nat.le_of_ble_eq_true rfl) ?_
  show RW G _ _ _ _ 0 0 0 [(0, .ref (ad 0))] [] h
  refine rw_aload_n dX11_run_0 0 rfl rfl ?_
  refine sg_0_3 hr dX11_run_1 fl445 ?_
  refine rw_aload_n dX11_run_4 0 rfl rfl ?_
  refine sg_0_0 hr dX11_run_5 fl442 ?_
  refine rw_aload_n dX11_run_8 0 rfl rfl ?_
  refine sg_0_1 hr dX11_run_9 fl443 ?_
  obtain ⟨q1, hq1, hf⟩ := bnd hf
  refine kV_V (ad := ad) (As := [.ref (ad 1), .ref (ad 3)]) (st := []) dX11_run_12 calX6_lay wm543 wm544 wm545 rfl rfl (rc_10 hr) (ci := 6) (by decide) rfl rfl (Nat.le_of_ble_eq_true rfl) ⟨⟨by decide, by decide⟩, by decide, by decide⟩ (cmX6_lay hr hq1) (fun h hr => ?_)
  refine rw_aload_n dX11_run_15 0 rfl rfl ?_
  refine sg_0_4 hr dX11_run_16 fl446 ?_
  refine rw_aload_n dX11_run_19 0 rfl rfl ?_
  refine sg_0_0 hr dX11_run_20 fl442 ?_
  refine rw_aload_n dX11_run_23 0 rfl rfl ?_
  refine sg_0_3 hr dX11_run_24 fl445 ?_
  refine rw_aload_n dX11_run_27 0 rfl rfl ?_
  refine sg_0_9 hr dX11_run_28 fl451 ?_
  obtain ⟨q2, hq2, hf⟩ := bnd hf
  refine kV_V (ad := ad) (As := [.ref (ad 1), .ref (ad 10), .ref (ad 41)]) (st := []) dX11_run_31 calX5_findAll wm627 wm628 wm629 rfl rfl (rc_18 hr) (ci := 5) (by decide) rfl rfl (Nat.le_of_ble_eq_true rfl) ⟨⟨by decide, by decide⟩, by decide, by decide⟩ (cmX5_findAll hr hq2) (fun h hr => ?_)
  refine rw_aload_n dX11_run_34 0 rfl rfl ?_
  refine sg_0_5 hr dX11_run_35 fl447 ?_
  refine rw_aload_n dX11_run_38 0 rfl rfl ?_
  refine sg_0_0 hr dX11_run_39 fl442 ?_
  refine rw_aload_n dX11_run_42 0 rfl rfl ?_
  refine sg_0_3 hr dX11_run_43 fl445 ?_
  refine rw_aload_n dX11_run_46 0 rfl rfl ?_
  refine sg_0_4 hr dX11_run_47 fl446 ?_
  obtain ⟨q3, hq3, hf⟩ := bnd hf
  refine kV_V (ad := ad) (As := [.ref (ad 1), .ref (ad 10), .ref (ad 18)]) (st := []) dX11_run_50 calX0_gather wm652 wm653 wm654 rfl rfl (rc_25 hr) (ci := 1) (by decide) rfl rfl (Nat.le_of_ble_eq_true rfl) ⟨⟨by decide, by decide⟩, by decide, by decide⟩ (cmX0_gather hr hq3) (fun h hr => ?_)
  refine rw_aload_n dX11_run_53 0 rfl rfl ?_
  refine rw_iconst (v := 1) dX11_run_54 (by decide) ?_
  refine sp_0_12 hr dX11_run_55 fl454 (by decide) (by decide) (fun h hr => ?_)
  refine nmS hf hr (fun σ4 hr hf => ?_)
  refine rw_aload_n dX11_run_58 0 rfl rfl ?_
  refine sg_0_5 hr dX11_run_59 fl447 ?_
  refine sg_25_5 hr dX11_run_62 fl325 ?_
  replace hf := Option.some.inj hf
  subst hf
  exact rw_ireturn dX11_run_65 rfl ⟨rfl, hr⟩ (by decide) (by decide)
def fX11_requireRun  (σ : rS) : Option ((Except String Unit) × rS) := if (σ.1 0 12) = 0 then some (.error "java/lang/IllegalStateException", σ) else some (.ok (), σ)
set_option maxHeartbeats 4000000 in
theorem cmX11_requireRun {G : rG} {ad : Nat → Nat}  {σ : rS} {h : rH} {o : ((Except String Unit) × rS)} (hr : Rep G ad σ h) (hf : fX11_requireRun  σ = some o) : rMT G mX11_requireRun (rm 6 1 6) [.ref (ad 0)] h (tV G ad o) (xT G ad o) := by
  unfold fX11_requireRun at hf
  refine rw_met (by decide +kernel) rfl (Nat.le_of_ble_eq_true rfl) ?_
  show RW G _ _ _ _ 0 0 0 [(0, .ref (ad 0))] [] h
  refine rw_aload_n dX11_requireRun_0 0 rfl rfl ?_
  refine sg_0_12 hr dX11_requireRun_1 fl454 ?_
  refine rw_if_ne (tgt := 15) dX11_requireRun_4 (by decide) (fun c1 => ?_) (fun c1 => ?_)
  · rw [if_neg c1] at hf
    replace hf := Option.some.inj hf
    subst hf
    exact rw_return dX11_requireRun_15 rfl ⟨_, rfl, rfl, hr⟩ (by decide) (by decide)
  · rw [if_pos c1] at hf
    replace hf := Option.some.inj hf
    subst hf
    exact rw_throw (E := "java/lang/IllegalStateException") (names := ["java/lang/RuntimeException", "java/lang/Exception"]) dX11_requireRun_7 dX11_requireRun_10 dX11_requireRun_11 dX11_requireRun_14 rfl (by decide) (by decide +kernel) (by decide +kernel) wm953 wm86 (by decide +kernel) (by decide) (by decide) (by decide) (by decide) ⟨rfl, hr⟩
def fX11_count (a0 : Int32) (σ : rS) : Option ((Except String Int32) × rS) := if a0 = 0 then some (.ok (σ.1 1 1), σ) else if a0 = 1 then some (.ok (σ.1 3 2), σ) else if a0 = 2 then some (.ok (σ.1 6 3), σ) else if a0 = 3 then (fX11_requireRun σ).bind fun q5 => match q5.1 with | .error E7 => some (.error E7, q5.2) | .ok r6 => some (.ok (q5.2.1 10 4), q5.2) else if a0 = 4 then (fX11_requireRun σ).bind fun q9 => match q9.1 with | .error E11 => some (.error E11, q9.2) | .ok r10 => some (.ok (q9.2.1 10 5), q9.2) else if a0 = 5 then (fX11_requireRun σ).bind fun q13 => match q13.1 with | .error E15 => some (.error E15, q13.2) | .ok r14 => some (.ok (q13.2.1 10 6), q13.2) else if a0 = 6 then (fX11_requireRun σ).bind fun q17 => match q17.1 with | .error E19 => some (.error E19, q17.2) | .ok r18 => some (.ok (q17.2.1 25 5), q17.2) else some (.ok ((-1)), σ)
set_option maxHeartbeats 4000000 in
theorem cmX11_count {G : rG} {ad : Nat → Nat} {a0 : Int32} {σ : rS} {h : rH} {o : ((Except String Int32) × rS)} (hr : Rep G ad σ h) (hf : fX11_count a0 σ = some o) : rMT G mX11_count (rm 7 4 24) [.ref (ad 0), .int a0] h (tI G ad o) (xT G ad o) := by
  unfold fX11_count at hf
  refine rw_met (by decide +kernel) rfl (Nat.le_of_ble_eq_true rfl) ?_
  show RW G _ _ _ _ 0 0 0 [(0, .ref (ad 0)), (1, .int a0)] [] h
  refine rw_iload_n dX11_count_0 1 rfl rfl ?_
  by_cases c1 : a0 = 0
  · rw [if_pos c1] at hf
    refine rw_top c1 (rw_tableIn (off := 43) (tgt := 44) dX11_count_1 (by decide) (by decide) rfl (by decide) ?_)
    refine rw_aload_n dX11_count_44 0 rfl rfl ?_
    refine sg_0_0 hr dX11_count_45 fl442 ?_
    refine sg_1_1 hr dX11_count_48 fl172 ?_
    replace hf := Option.some.inj hf
    subst hf
    exact rw_ireturn dX11_count_51 rfl ⟨_, rfl, rfl, hr⟩ (by decide) (by decide)
  rw [if_neg c1] at hf
  by_cases c2 : a0 = 1
  · rw [if_pos c2] at hf
    refine rw_top c2 (rw_tableIn (off := 51) (tgt := 52) dX11_count_1 (by decide) (by decide) rfl (by decide) ?_)
    refine rw_aload_n dX11_count_52 0 rfl rfl ?_
    refine sg_0_1 hr dX11_count_53 fl443 ?_
    refine sg_3_2 hr dX11_count_56 fl194 ?_
    replace hf := Option.some.inj hf
    subst hf
    exact rw_ireturn dX11_count_59 rfl ⟨_, rfl, rfl, hr⟩ (by decide) (by decide)
  rw [if_neg c2] at hf
  by_cases c3 : a0 = 2
  · rw [if_pos c3] at hf
    refine rw_top c3 (rw_tableIn (off := 59) (tgt := 60) dX11_count_1 (by decide) (by decide) rfl (by decide) ?_)
    refine rw_aload_n dX11_count_60 0 rfl rfl ?_
    refine sg_0_2 hr dX11_count_61 fl444 ?_
    refine sg_6_3 hr dX11_count_64 fl212 ?_
    replace hf := Option.some.inj hf
    subst hf
    exact rw_ireturn dX11_count_67 rfl ⟨_, rfl, rfl, hr⟩ (by decide) (by decide)
  rw [if_neg c3] at hf
  by_cases c4 : a0 = 3
  · rw [if_pos c4] at hf
    refine rw_top c4 (rw_tableIn (off := 67) (tgt := 68) dX11_count_1 (by decide) (by decide) rfl (by decide) ?_)
    refine rw_aload_n dX11_count_68 0 rfl rfl ?_
    obtain ⟨q5, hq5, hf⟩ := bnd hf
    refine kV_Vx (ad := ad) (As := []) (st := []) dX11_count_69 calX11_requireRun wm949 wm951 wm24 rfl rfl (rc_0 hr) (ci := 11) (by decide) rfl rfl (Nat.le_of_ble_eq_true rfl) ⟨⟨by decide, by decide⟩, by decide, by decide⟩ (cmX11_requireRun hr hq5) (fun E h he hr => ?_) (fun r6 h he hr => ?_)
    · rw [he] at hf
      cases hf
      exact rx_out rfl ⟨rfl, hr⟩ (by decide) (by decide)
    rw [he] at hf
    dsimp only at hf
    refine rw_aload_n dX11_count_72 0 rfl rfl ?_
    refine sg_0_3 hr dX11_count_73 fl445 ?_
    refine sg_10_4 hr dX11_count_76 fl242 ?_
    replace hf := Option.some.inj hf
    subst hf
    exact rw_ireturn dX11_count_79 rfl ⟨_, rfl, rfl, hr⟩ (by decide) (by decide)
  rw [if_neg c4] at hf
  by_cases c8 : a0 = 4
  · rw [if_pos c8] at hf
    refine rw_top c8 (rw_tableIn (off := 79) (tgt := 80) dX11_count_1 (by decide) (by decide) rfl (by decide) ?_)
    refine rw_aload_n dX11_count_80 0 rfl rfl ?_
    obtain ⟨q9, hq9, hf⟩ := bnd hf
    refine kV_Vx (ad := ad) (As := []) (st := []) dX11_count_81 calX11_requireRun wm949 wm951 wm24 rfl rfl (rc_0 hr) (ci := 11) (by decide) rfl rfl (Nat.le_of_ble_eq_true rfl) ⟨⟨by decide, by decide⟩, by decide, by decide⟩ (cmX11_requireRun hr hq9) (fun E h he hr => ?_) (fun r10 h he hr => ?_)
    · rw [he] at hf
      cases hf
      exact rx_out rfl ⟨rfl, hr⟩ (by decide) (by decide)
    rw [he] at hf
    dsimp only at hf
    refine rw_aload_n dX11_count_84 0 rfl rfl ?_
    refine sg_0_3 hr dX11_count_85 fl445 ?_
    refine sg_10_5 hr dX11_count_88 fl244 ?_
    replace hf := Option.some.inj hf
    subst hf
    exact rw_ireturn dX11_count_91 rfl ⟨_, rfl, rfl, hr⟩ (by decide) (by decide)
  rw [if_neg c8] at hf
  by_cases c12 : a0 = 5
  · rw [if_pos c12] at hf
    refine rw_top c12 (rw_tableIn (off := 91) (tgt := 92) dX11_count_1 (by decide) (by decide) rfl (by decide) ?_)
    refine rw_aload_n dX11_count_92 0 rfl rfl ?_
    obtain ⟨q13, hq13, hf⟩ := bnd hf
    refine kV_Vx (ad := ad) (As := []) (st := []) dX11_count_93 calX11_requireRun wm949 wm951 wm24 rfl rfl (rc_0 hr) (ci := 11) (by decide) rfl rfl (Nat.le_of_ble_eq_true rfl) ⟨⟨by decide, by decide⟩, by decide, by decide⟩ (cmX11_requireRun hr hq13) (fun E h he hr => ?_) (fun r14 h he hr => ?_)
    · rw [he] at hf
      cases hf
      exact rx_out rfl ⟨rfl, hr⟩ (by decide) (by decide)
    rw [he] at hf
    dsimp only at hf
    refine rw_aload_n dX11_count_96 0 rfl rfl ?_
    refine sg_0_3 hr dX11_count_97 fl445 ?_
    refine sg_10_6 hr dX11_count_100 fl246 ?_
    replace hf := Option.some.inj hf
    subst hf
    exact rw_ireturn dX11_count_103 rfl ⟨_, rfl, rfl, hr⟩ (by decide) (by decide)
  rw [if_neg c12] at hf
  by_cases c16 : a0 = 6
  · rw [if_pos c16] at hf
    refine rw_top c16 (rw_tableIn (off := 103) (tgt := 104) dX11_count_1 (by decide) (by decide) rfl (by decide) ?_)
    refine rw_aload_n dX11_count_104 0 rfl rfl ?_
    obtain ⟨q17, hq17, hf⟩ := bnd hf
    refine kV_Vx (ad := ad) (As := []) (st := []) dX11_count_105 calX11_requireRun wm949 wm951 wm24 rfl rfl (rc_0 hr) (ci := 11) (by decide) rfl rfl (Nat.le_of_ble_eq_true rfl) ⟨⟨by decide, by decide⟩, by decide, by decide⟩ (cmX11_requireRun hr hq17) (fun E h he hr => ?_) (fun r18 h he hr => ?_)
    · rw [he] at hf
      cases hf
      exact rx_out rfl ⟨rfl, hr⟩ (by decide) (by decide)
    rw [he] at hf
    dsimp only at hf
    refine rw_aload_n dX11_count_108 0 rfl rfl ?_
    refine sg_0_5 hr dX11_count_109 fl447 ?_
    refine sg_25_5 hr dX11_count_112 fl325 ?_
    replace hf := Option.some.inj hf
    subst hf
    exact rw_ireturn dX11_count_115 rfl ⟨_, rfl, rfl, hr⟩ (by decide) (by decide)
  rw [if_neg c16] at hf
  refine rw_tableOut (tgt := 116) dX11_count_1 (tb_out7_0 c1 c2 c3 c4 c8 c12 c16) (by decide) ?_
  refine rw_iconst (v := (-1)) dX11_count_116 (by decide) ?_
  replace hf := Option.some.inj hf
  subst hf
  exact rw_ireturn dX11_count_117 rfl ⟨_, rfl, rfl, hr⟩ (by decide) (by decide)
def jX11_edge_81  (s0 : Int32) (σ : rS) : Option ((Except String Int32) × rS) := some (.ok s0, σ)
set_option maxHeartbeats 4000000 in
theorem t_jX11_edge_81 {G : rG} {ad : Nat → Nat} {o : ((Except String Int32) × rS)}   (s0 : Int32) (σ : rS) (h : rH) (hr : Rep G ad σ h) (hf : jX11_edge_81  s0 σ = some o) : RW G mX11_edge (rm 7 3 18) (tI G ad o) (xT G ad o) 2 12 81 [] [.int s0] h := by
  unfold jX11_edge_81 at hf
  replace hf := Option.some.inj hf
  subst hf
  exact rw_ireturn dX11_edge_81 rfl ⟨_, rfl, rfl, hr⟩ (by decide) (by decide)
def fX11_edge (a0 : Int32) (a1 : Int32) (σ : rS) : Option ((Except String Int32) × rS) := (fX11_requireRun σ).bind fun q1 => match q1.1 with | .error E3 => some (.error E3, q1.2) | .ok r2 => (fX11_requireIndex a0 (q1.2.1 10 4) q1.2).bind fun q4 => match q4.1 with | .error E6 => some (.error E6, q4.2) | .ok r5 => if a1 = 0 then if inB a0 42 then some (.ok (q4.2.2.2.1 11 a0.toNatClampNeg), q4.2) else none else if a1 = 1 then if inB a0 42 then some (.ok (q4.2.2.2.1 12 a0.toNatClampNeg), q4.2) else none else if a1 = 2 then if inB a0 42 then (if (q4.2.2.2.1 13 a0.toNatClampNeg) = 0 then jX11_edge_81 0 q4.2 else jX11_edge_81 1 q4.2) else none else some (.error "java/lang/IllegalArgumentException", q4.2)
set_option maxHeartbeats 4000000 in
theorem cmX11_edge {G : rG} {ad : Nat → Nat} {a0 : Int32} {a1 : Int32} {σ : rS} {h : rH} {o : ((Except String Int32) × rS)} (hr : Rep G ad σ h) (hf : fX11_edge a0 a1 σ = some o) : rMT G mX11_edge (rm 7 3 18) [.ref (ad 0), .int a0, .int a1] h (tI G ad o) (xT G ad o) := by
  unfold fX11_edge at hf
  refine rw_met (by decide +kernel) rfl (Nat.le_of_ble_eq_true rfl) ?_
  show RW G _ _ _ _ 0 0 0 [(0, .ref (ad 0)), (1, .int a0), (2, .int a1)] [] h
  refine rw_aload_n dX11_edge_0 0 rfl rfl ?_
  obtain ⟨q1, hq1, hf⟩ := bnd hf
  refine kV_Vx (ad := ad) (As := []) (st := []) dX11_edge_1 calX11_requireRun wm949 wm951 wm24 rfl rfl (rc_0 hr) (ci := 11) (by decide) rfl rfl (Nat.le_of_ble_eq_true rfl) ⟨⟨by decide, by decide⟩, by decide, by decide⟩ (cmX11_requireRun hr hq1) (fun E h he hr => ?_) (fun r2 h he hr => ?_)
  · rw [he] at hf
    cases hf
    exact rx_out rfl ⟨rfl, hr⟩ (by decide) (by decide)
  rw [he] at hf
  dsimp only at hf
  refine rw_iload_n dX11_edge_4 1 rfl rfl ?_
  refine rw_aload_n dX11_edge_5 0 rfl rfl ?_
  refine sg_0_3 hr dX11_edge_6 fl445 ?_
  refine sg_10_4 hr dX11_edge_9 fl242 ?_
  obtain ⟨q4, hq4, hf⟩ := bnd hf
  refine kS_Vx (ad := ad) (As := [.int a0, .int (q1.2.1 10 4)]) (st := []) dX11_edge_12 calX11_requireIndex wm919 wm920 rfl rfl (Nat.le_of_ble_eq_true rfl) ⟨⟨by decide, by decide⟩, by decide, by decide⟩ (cmX11_requireIndex hr hq4) (fun E h he hr => ?_) (fun r5 h he hr => ?_)
  · rw [he] at hf
    cases hf
    exact rx_out rfl ⟨rfl, hr⟩ (by decide) (by decide)
  rw [he] at hf
  dsimp only at hf
  refine rw_iload_n dX11_edge_15 2 rfl rfl ?_
  by_cases c7 : a1 = 0
  · rw [if_pos c7] at hf
    refine rw_top c7 (rw_tableIn (off := 28) (tgt := 44) dX11_edge_16 (by decide) (by decide) rfl (by decide) ?_)
    refine rw_aload_n dX11_edge_44 0 rfl rfl ?_
    refine sg_0_3 hr dX11_edge_45 fl445 ?_
    refine sg_10_0 hr dX11_edge_48 fl230 ?_
    refine rw_iload_n dX11_edge_51 1 rfl rfl ?_
    obtain ⟨hi8, hf⟩ := grd hf
    refine sl_11 hr dX11_edge_52 (inB_in hi8) ?_
    replace hf := Option.some.inj hf
    subst hf
    exact rw_ireturn dX11_edge_53 rfl ⟨_, rfl, rfl, hr⟩ (by decide) (by decide)
  rw [if_neg c7] at hf
  by_cases c9 : a1 = 1
  · rw [if_pos c9] at hf
    refine rw_top c9 (rw_tableIn (off := 38) (tgt := 54) dX11_edge_16 (by decide) (by decide) rfl (by decide) ?_)
    refine rw_aload_n dX11_edge_54 0 rfl rfl ?_
    refine sg_0_3 hr dX11_edge_55 fl445 ?_
    refine sg_10_1 hr dX11_edge_58 fl233 ?_
    refine rw_iload_n dX11_edge_61 1 rfl rfl ?_
    obtain ⟨hi10, hf⟩ := grd hf
    refine sl_12 hr dX11_edge_62 (inB_in hi10) ?_
    replace hf := Option.some.inj hf
    subst hf
    exact rw_ireturn dX11_edge_63 rfl ⟨_, rfl, rfl, hr⟩ (by decide) (by decide)
  rw [if_neg c9] at hf
  by_cases c11 : a1 = 2
  · rw [if_pos c11] at hf
    refine rw_top c11 (rw_tableIn (off := 48) (tgt := 64) dX11_edge_16 (by decide) (by decide) rfl (by decide) ?_)
    refine rw_aload_n dX11_edge_64 0 rfl rfl ?_
    refine sg_0_3 hr dX11_edge_65 fl445 ?_
    refine sg_10_2 hr dX11_edge_68 fl236 ?_
    refine rw_iload_n dX11_edge_71 1 rfl rfl ?_
    obtain ⟨hi12, hf⟩ := grd hf
    refine sl_13 hr dX11_edge_72 (inB_in hi12) ?_
    refine rw_if_eq (tgt := 80) dX11_edge_73 (by decide) (fun c13 => ?_) (fun c13 => ?_)
    · rw [if_pos c13] at hf
      refine rw_iconst (v := 0) dX11_edge_80 (by decide) ?_
      refine rw_sub [] rfl ?_
      exact t_jX11_edge_81 (ad := ad) (G := G)  0 q4.2 _ hr hf
    · rw [if_neg c13] at hf
      refine rw_iconst (v := 1) dX11_edge_76 (by decide) ?_
      refine rw_goto (tgt := 81) dX11_edge_77 (by decide) ?_
      refine rw_sub [] rfl ?_
      exact t_jX11_edge_81 (ad := ad) (G := G)  1 q4.2 _ hr hf
  rw [if_neg c11] at hf
  refine rw_tableOut (tgt := 82) dX11_edge_16 (tb_out3_0 c7 c9 c11) (by decide) ?_
  replace hf := Option.some.inj hf
  subst hf
  exact rw_throw (E := "java/lang/IllegalArgumentException") (names := ["java/lang/RuntimeException", "java/lang/Exception"]) dX11_edge_82 dX11_edge_85 dX11_edge_86 dX11_edge_89 rfl (by decide) (by decide +kernel) (by decide +kernel) wm823 wm81 (by decide +kernel) (by decide) (by decide) (by decide) (by decide) ⟨rfl, hr⟩
def fX11_requireFrom (a0 : Int32) (a1 : Int32) (a2 : Int32) (σ : rS) : Option ((Except String Unit) × rS) := (fX11_isFrom a0 a1 a2 σ).bind fun q1 => if q1.1 = 0 then some (.error "java/lang/IllegalArgumentException", q1.2) else some (.ok (), q1.2)
set_option maxHeartbeats 4000000 in
theorem cmX11_requireFrom {G : rG} {ad : Nat → Nat} {a0 : Int32} {a1 : Int32} {a2 : Int32} {σ : rS} {h : rH} {o : ((Except String Unit) × rS)} (hr : Rep G ad σ h) (hf : fX11_requireFrom a0 a1 a2 σ = some o) : rMT G mX11_requireFrom (rm 6 1 6) [.int a0, .int a1, .int a2] h (tV G ad o) (xT G ad o) := by
  unfold fX11_requireFrom at hf
  refine rw_met (by decide +kernel) rfl (Nat.le_of_ble_eq_true rfl) ?_
  show RW G _ _ _ _ 0 0 0 [(0, .int a0), (1, .int a1), (2, .int a2)] [] h
  refine rw_iload_n dX11_requireFrom_0 0 rfl rfl ?_
  refine rw_iload_n dX11_requireFrom_1 1 rfl rfl ?_
  refine rw_iload_n dX11_requireFrom_2 2 rfl rfl ?_
  obtain ⟨q1, hq1, hf⟩ := bnd hf
  refine kS_I (ad := ad) (As := [.int a0, .int a1, .int a2]) (st := []) dX11_requireFrom_3 calX11_isFrom wm489 wm490 rfl rfl (Nat.le_of_ble_eq_true rfl) ⟨⟨by decide, by decide⟩, by decide, by decide⟩ (cmX11_isFrom hr hq1) (fun h hr => ?_)
  refine rw_if_ne (tgt := 17) dX11_requireFrom_6 (by decide) (fun c2 => ?_) (fun c2 => ?_)
  · rw [if_neg c2] at hf
    replace hf := Option.some.inj hf
    subst hf
    exact rw_return dX11_requireFrom_17 rfl ⟨_, rfl, rfl, hr⟩ (by decide) (by decide)
  · rw [if_pos c2] at hf
    replace hf := Option.some.inj hf
    subst hf
    exact rw_throw (E := "java/lang/IllegalArgumentException") (names := ["java/lang/RuntimeException", "java/lang/Exception"]) dX11_requireFrom_9 dX11_requireFrom_12 dX11_requireFrom_13 dX11_requireFrom_16 rfl (by decide) (by decide +kernel) (by decide +kernel) wm823 wm81 (by decide +kernel) (by decide) (by decide) (by decide) (by decide) ⟨rfl, hr⟩
def fX11_triangle (a0 : Int32) (a1 : Int32) (σ : rS) : Option ((Except String Int32) × rS) := (fX11_requireRun σ).bind fun q1 => match q1.1 with | .error E3 => some (.error E3, q1.2) | .ok r2 => (fX11_requireIndex a0 (q1.2.1 10 6) q1.2).bind fun q4 => match q4.1 with | .error E6 => some (.error E6, q4.2) | .ok r5 => (fX11_requireFrom 0 2 a1 q4.2).bind fun q7 => match q7.1 with | .error E9 => some (.error E9, q7.2) | .ok r8 => (fX6_cornerOf a0 a1 q7.2).bind fun q10 => some (.ok q10.1, q10.2)
set_option maxHeartbeats 4000000 in
theorem cmX11_triangle {G : rG} {ad : Nat → Nat} {a0 : Int32} {a1 : Int32} {σ : rS} {h : rH} {o : ((Except String Int32) × rS)} (hr : Rep G ad σ h) (hf : fX11_triangle a0 a1 σ = some o) : rMT G mX11_triangle (rm 7 3 18) [.ref (ad 0), .int a0, .int a1] h (tI G ad o) (xT G ad o) := by
  unfold fX11_triangle at hf
  refine rw_met (by decide +kernel) rfl (Nat.le_of_ble_eq_true rfl) ?_
  show RW G _ _ _ _ 0 0 0 [(0, .ref (ad 0)), (1, .int a0), (2, .int a1)] [] h
  refine rw_aload_n dX11_triangle_0 0 rfl rfl ?_
  obtain ⟨q1, hq1, hf⟩ := bnd hf
  refine kV_Vx (ad := ad) (As := []) (st := []) dX11_triangle_1 calX11_requireRun wm949 wm951 wm24 rfl rfl (rc_0 hr) (ci := 11) (by decide) rfl rfl (Nat.le_of_ble_eq_true rfl) ⟨⟨by decide, by decide⟩, by decide, by decide⟩ (cmX11_requireRun hr hq1) (fun E h he hr => ?_) (fun r2 h he hr => ?_)
  · rw [he] at hf
    cases hf
    exact rx_out rfl ⟨rfl, hr⟩ (by decide) (by decide)
  rw [he] at hf
  dsimp only at hf
  refine rw_iload_n dX11_triangle_4 1 rfl rfl ?_
  refine rw_aload_n dX11_triangle_5 0 rfl rfl ?_
  refine sg_0_3 hr dX11_triangle_6 fl445 ?_
  refine sg_10_6 hr dX11_triangle_9 fl246 ?_
  obtain ⟨q4, hq4, hf⟩ := bnd hf
  refine kS_Vx (ad := ad) (As := [.int a0, .int (q1.2.1 10 6)]) (st := []) dX11_triangle_12 calX11_requireIndex wm919 wm920 rfl rfl (Nat.le_of_ble_eq_true rfl) ⟨⟨by decide, by decide⟩, by decide, by decide⟩ (cmX11_requireIndex hr hq4) (fun E h he hr => ?_) (fun r5 h he hr => ?_)
  · rw [he] at hf
    cases hf
    exact rx_out rfl ⟨rfl, hr⟩ (by decide) (by decide)
  rw [he] at hf
  dsimp only at hf
  refine rw_iconst (v := 0) dX11_triangle_15 (by decide) ?_
  refine rw_iconst (v := 2) dX11_triangle_16 (by decide) ?_
  refine rw_iload_n dX11_triangle_17 2 rfl rfl ?_
  obtain ⟨q7, hq7, hf⟩ := bnd hf
  refine kS_Vx (ad := ad) (As := [.int 0, .int 2, .int a1]) (st := []) dX11_triangle_18 calX11_requireFrom wm982 wm983 rfl rfl (Nat.le_of_ble_eq_true rfl) ⟨⟨by decide, by decide⟩, by decide, by decide⟩ (cmX11_requireFrom hr hq7) (fun E h he hr => ?_) (fun r8 h he hr => ?_)
  · rw [he] at hf
    cases hf
    exact rx_out rfl ⟨rfl, hr⟩ (by decide) (by decide)
  rw [he] at hf
  dsimp only at hf
  refine rw_aload_n dX11_triangle_21 0 rfl rfl ?_
  refine sg_0_3 hr dX11_triangle_22 fl445 ?_
  refine rw_iload_n dX11_triangle_25 1 rfl rfl ?_
  refine rw_iload_n dX11_triangle_26 2 rfl rfl ?_
  obtain ⟨q10, hq10, hf⟩ := bnd hf
  refine kV_I (ad := ad) (As := [.int a0, .int a1]) (st := []) dX11_triangle_27 calX6_cornerOf wm985 wm986 wm987 rfl rfl (rc_10 hr) (ci := 6) (by decide) rfl rfl (Nat.le_of_ble_eq_true rfl) ⟨⟨by decide, by decide⟩, by decide, by decide⟩ (cmX6_cornerOf hr hq10) (fun h hr => ?_)
  replace hf := Option.some.inj hf
  subst hf
  exact rw_ireturn dX11_triangle_30 rfl ⟨_, rfl, rfl, hr⟩ (by decide) (by decide)
def fX11_requireNeighbours (a0 : Int32) (a1 : Int32) (σ : rS) : Option ((Except String Unit) × rS) := (fX6_joining a0 a1 σ).bind fun q1 => if q1.1 = ((-1)) then some (.error "java/lang/IllegalArgumentException", q1.2) else some (.ok (), q1.2)
set_option maxHeartbeats 4000000 in
theorem cmX11_requireNeighbours {G : rG} {ad : Nat → Nat} {a0 : Int32} {a1 : Int32} {σ : rS} {h : rH} {o : ((Except String Unit) × rS)} (hr : Rep G ad σ h) (hf : fX11_requireNeighbours a0 a1 σ = some o) : rMT G mX11_requireNeighbours (rm 6 1 6) [.ref (ad 0), .int a0, .int a1] h (tV G ad o) (xT G ad o) := by
  unfold fX11_requireNeighbours at hf
  refine rw_met (by decide +kernel) rfl (Nat.le_of_ble_eq_true rfl) ?_
  show RW G _ _ _ _ 0 0 0 [(0, .ref (ad 0)), (1, .int a0), (2, .int a1)] [] h
  refine rw_aload_n dX11_requireNeighbours_0 0 rfl rfl ?_
  refine sg_0_3 hr dX11_requireNeighbours_1 fl445 ?_
  refine rw_iload_n dX11_requireNeighbours_4 1 rfl rfl ?_
  refine rw_iload_n dX11_requireNeighbours_5 2 rfl rfl ?_
  obtain ⟨q1, hq1, hf⟩ := bnd hf
  refine kV_I (ad := ad) (As := [.int a0, .int a1]) (st := []) dX11_requireNeighbours_6 calX6_joining wm1000 wm607 wm608 rfl rfl (rc_10 hr) (ci := 6) (by decide) rfl rfl (Nat.le_of_ble_eq_true rfl) ⟨⟨by decide, by decide⟩, by decide, by decide⟩ (cmX6_joining hr hq1) (fun h hr => ?_)
  refine rw_iconst (v := (-1)) dX11_requireNeighbours_9 (by decide) ?_
  refine rw_icmp_ne (tgt := 21) dX11_requireNeighbours_10 (by decide) (fun c2 => ?_) (fun c2 => ?_)
  · rw [if_neg c2] at hf
    replace hf := Option.some.inj hf
    subst hf
    exact rw_return dX11_requireNeighbours_21 rfl ⟨_, rfl, rfl, hr⟩ (by decide) (by decide)
  · rw [if_pos c2] at hf
    replace hf := Option.some.inj hf
    subst hf
    exact rw_throw (E := "java/lang/IllegalArgumentException") (names := ["java/lang/RuntimeException", "java/lang/Exception"]) dX11_requireNeighbours_13 dX11_requireNeighbours_16 dX11_requireNeighbours_17 dX11_requireNeighbours_20 rfl (by decide) (by decide +kernel) (by decide +kernel) wm823 wm81 (by decide +kernel) (by decide) (by decide) (by decide) (by decide) ⟨rfl, hr⟩
def fX11_match (a0 : Int32) (a1 : Int32) (a2 : Int32) (σ : rS) : Option ((Except String Int32) × rS) := (fX11_requireRun σ).bind fun q1 => match q1.1 with | .error E3 => some (.error E3, q1.2) | .ok r2 => (fX11_requireBoring a0 q1.2).bind fun q4 => match q4.1 with | .error E6 => some (.error E6, q4.2) | .ok r5 => (fX11_requireBoring a1 q4.2).bind fun q7 => match q7.1 with | .error E9 => some (.error E9, q7.2) | .ok r8 => if inB a0 16 then if isBo (80 + 4 * a0.toNatClampNeg) then (fX11_requireIndex a2 (q7.2.1 (80 + 4 * a0.toNatClampNeg) 4) q7.2).bind fun q12 => match q12.1 with | .error E14 => some (.error E14, q12.2) | .ok r13 => (fX11_requireNeighbours a0 a1 q12.2).bind fun q15 => match q15.1 with | .error E17 => some (.error E17, q15.2) | .ok r16 => (fX5_partner a0 a1 a2 q15.2).bind fun q18 => some (.ok q18.1, q18.2) else none else none
set_option maxHeartbeats 4000000 in
theorem cmX11_match {G : rG} {ad : Nat → Nat} {a0 : Int32} {a1 : Int32} {a2 : Int32} {σ : rS} {h : rH} {o : ((Except String Int32) × rS)} (hr : Rep G ad σ h) (hf : fX11_match a0 a1 a2 σ = some o) : rMT G mX11_match (rm 8 5 30) [.ref (ad 0), .int a0, .int a1, .int a2] h (tI G ad o) (xT G ad o) := by
  unfold fX11_match at hf
  refine rw_met (by decide +kernel) rfl (Nat.le_of_ble_eq_true rfl) ?_
  show RW G _ _ _ _ 0 0 0 [(0, .ref (ad 0)), (1, .int a0), (2, .int a1), (3, .int a2)] [] h
  refine rw_aload_n dX11_match_0 0 rfl rfl ?_
  obtain ⟨q1, hq1, hf⟩ := bnd hf
  refine kV_Vx (ad := ad) (As := []) (st := []) dX11_match_1 calX11_requireRun wm949 wm951 wm24 rfl rfl (rc_0 hr) (ci := 11) (by decide) rfl rfl (Nat.le_of_ble_eq_true rfl) ⟨⟨by decide, by decide⟩, by decide, by decide⟩ (cmX11_requireRun hr hq1) (fun E h he hr => ?_) (fun r2 h he hr => ?_)
  · rw [he] at hf
    cases hf
    exact rx_out rfl ⟨rfl, hr⟩ (by decide) (by decide)
  rw [he] at hf
  dsimp only at hf
  refine rw_aload_n dX11_match_4 0 rfl rfl ?_
  refine rw_iload_n dX11_match_5 1 rfl rfl ?_
  obtain ⟨q4, hq4, hf⟩ := bnd hf
  refine kV_Vx (ad := ad) (As := [.int a0]) (st := []) dX11_match_6 calX11_requireBoring wm915 wm917 wm23 rfl rfl (rc_0 hr) (ci := 11) (by decide) rfl rfl (Nat.le_of_ble_eq_true rfl) ⟨⟨by decide, by decide⟩, by decide, by decide⟩ (cmX11_requireBoring hr hq4) (fun E h he hr => ?_) (fun r5 h he hr => ?_)
  · rw [he] at hf
    cases hf
    exact rx_out rfl ⟨rfl, hr⟩ (by decide) (by decide)
  rw [he] at hf
  dsimp only at hf
  refine rw_aload_n dX11_match_9 0 rfl rfl ?_
  refine rw_iload_n dX11_match_10 2 rfl rfl ?_
  obtain ⟨q7, hq7, hf⟩ := bnd hf
  refine kV_Vx (ad := ad) (As := [.int a1]) (st := []) dX11_match_11 calX11_requireBoring wm915 wm917 wm23 rfl rfl (rc_0 hr) (ci := 11) (by decide) rfl rfl (Nat.le_of_ble_eq_true rfl) ⟨⟨by decide, by decide⟩, by decide, by decide⟩ (cmX11_requireBoring hr hq7) (fun E h he hr => ?_) (fun r8 h he hr => ?_)
  · rw [he] at hf
    cases hf
    exact rx_out rfl ⟨rfl, hr⟩ (by decide) (by decide)
  rw [he] at hf
  dsimp only at hf
  refine rw_iload_n dX11_match_14 3 rfl rfl ?_
  refine rw_aload_n dX11_match_15 0 rfl rfl ?_
  refine sg_0_0 hr dX11_match_16 fl442 ?_
  refine sg_1_0 hr dX11_match_19 fl167 ?_
  refine rw_iload_n dX11_match_22 1 rfl rfl ?_
  obtain ⟨hi10, hf⟩ := grd hf
  refine sa_2 hr dX11_match_23 (inB_in hi10) ?_
  obtain ⟨hp11, hf⟩ := grd hf
  refine sg_Bo_4 hr dX11_match_24 fl149 hp11 ?_
  obtain ⟨q12, hq12, hf⟩ := bnd hf
  refine kS_Vx (ad := ad) (As := [.int a2, .int (q7.2.1 (80 + 4 * a0.toNatClampNeg) 4)]) (st := []) dX11_match_27 calX11_requireIndex wm919 wm920 rfl rfl (Nat.le_of_ble_eq_true rfl) ⟨⟨by decide, by decide⟩, by decide, by decide⟩ (cmX11_requireIndex hr hq12) (fun E h he hr => ?_) (fun r13 h he hr => ?_)
  · rw [he] at hf
    cases hf
    exact rx_out rfl ⟨rfl, hr⟩ (by decide) (by decide)
  rw [he] at hf
  dsimp only at hf
  refine rw_aload_n dX11_match_30 0 rfl rfl ?_
  refine rw_iload_n dX11_match_31 1 rfl rfl ?_
  refine rw_iload_n dX11_match_32 2 rfl rfl ?_
  obtain ⟨q15, hq15, hf⟩ := bnd hf
  refine kV_Vx (ad := ad) (As := [.int a0, .int a1]) (st := []) dX11_match_33 calX11_requireNeighbours wm996 wm998 wm25 rfl rfl (rc_0 hr) (ci := 11) (by decide) rfl rfl (Nat.le_of_ble_eq_true rfl) ⟨⟨by decide, by decide⟩, by decide, by decide⟩ (cmX11_requireNeighbours hr hq15) (fun E h he hr => ?_) (fun r16 h he hr => ?_)
  · rw [he] at hf
    cases hf
    exact rx_out rfl ⟨rfl, hr⟩ (by decide) (by decide)
  rw [he] at hf
  dsimp only at hf
  refine rw_aload_n dX11_match_36 0 rfl rfl ?_
  refine sg_0_4 hr dX11_match_37 fl446 ?_
  refine rw_aload_n dX11_match_40 0 rfl rfl ?_
  refine sg_0_3 hr dX11_match_41 fl445 ?_
  refine rw_iload_n dX11_match_44 1 rfl rfl ?_
  refine rw_iload_n dX11_match_45 2 rfl rfl ?_
  refine rw_iload_n dX11_match_46 3 rfl rfl ?_
  obtain ⟨q18, hq18, hf⟩ := bnd hf
  refine kV_I (ad := ad) (As := [.ref (ad 10), .int a0, .int a1, .int a2]) (st := []) dX11_match_47 calX5_partner wm1001 wm677 wm678 rfl rfl (rc_18 hr) (ci := 5) (by decide) rfl rfl (Nat.le_of_ble_eq_true rfl) ⟨⟨by decide, by decide⟩, by decide, by decide⟩ (cmX5_partner hr hq18) (fun h hr => ?_)
  replace hf := Option.some.inj hf
  subst hf
  exact rw_ireturn dX11_match_50 rfl ⟨_, rfl, rfl, hr⟩ (by decide) (by decide)
def fX11_sum (a0 : Int32) (a1 : Int32) (σ : rS) : Option ((Except String Int32) × rS) := (fX11_requireRun σ).bind fun q1 => match q1.1 with | .error E3 => some (.error E3, q1.2) | .ok r2 => (fX11_requireBoring a0 q1.2).bind fun q4 => match q4.1 with | .error E6 => some (.error E6, q4.2) | .ok r5 => (fX11_requireBoring a1 q4.2).bind fun q7 => match q7.1 with | .error E9 => some (.error E9, q7.2) | .ok r8 => (fX11_requireNeighbours a0 a1 q7.2).bind fun q10 => match q10.1 with | .error E12 => some (.error E12, q10.2) | .ok r11 => (fX6_joining a0 a1 q10.2).bind fun q13 => if inB q13.1 42 then some (.ok (q13.2.2.2.1 19 q13.1.toNatClampNeg), q13.2) else none
set_option maxHeartbeats 4000000 in
theorem cmX11_sum {G : rG} {ad : Nat → Nat} {a0 : Int32} {a1 : Int32} {σ : rS} {h : rH} {o : ((Except String Int32) × rS)} (hr : Rep G ad σ h) (hf : fX11_sum a0 a1 σ = some o) : rMT G mX11_sum (rm 8 4 24) [.ref (ad 0), .int a0, .int a1] h (tI G ad o) (xT G ad o) := by
  unfold fX11_sum at hf
  refine rw_met (by decide +kernel) rfl (Nat.le_of_ble_eq_true rfl) ?_
  show RW G _ _ _ _ 0 0 0 [(0, .ref (ad 0)), (1, .int a0), (2, .int a1)] [] h
  refine rw_aload_n dX11_sum_0 0 rfl rfl ?_
  obtain ⟨q1, hq1, hf⟩ := bnd hf
  refine kV_Vx (ad := ad) (As := []) (st := []) dX11_sum_1 calX11_requireRun wm949 wm951 wm24 rfl rfl (rc_0 hr) (ci := 11) (by decide) rfl rfl (Nat.le_of_ble_eq_true rfl) ⟨⟨by decide, by decide⟩, by decide, by decide⟩ (cmX11_requireRun hr hq1) (fun E h he hr => ?_) (fun r2 h he hr => ?_)
  · rw [he] at hf
    cases hf
    exact rx_out rfl ⟨rfl, hr⟩ (by decide) (by decide)
  rw [he] at hf
  dsimp only at hf
  refine rw_aload_n dX11_sum_4 0 rfl rfl ?_
  refine rw_iload_n dX11_sum_5 1 rfl rfl ?_
  obtain ⟨q4, hq4, hf⟩ := bnd hf
  refine kV_Vx (ad := ad) (As := [.int a0]) (st := []) dX11_sum_6 calX11_requireBoring wm915 wm917 wm23 rfl rfl (rc_0 hr) (ci := 11) (by decide) rfl rfl (Nat.le_of_ble_eq_true rfl) ⟨⟨by decide, by decide⟩, by decide, by decide⟩ (cmX11_requireBoring hr hq4) (fun E h he hr => ?_) (fun r5 h he hr => ?_)
  · rw [he] at hf
    cases hf
    exact rx_out rfl ⟨rfl, hr⟩ (by decide) (by decide)
  rw [he] at hf
  dsimp only at hf
  refine rw_aload_n dX11_sum_9 0 rfl rfl ?_
  refine rw_iload_n dX11_sum_10 2 rfl rfl ?_
  obtain ⟨q7, hq7, hf⟩ := bnd hf
  refine kV_Vx (ad := ad) (As := [.int a1]) (st := []) dX11_sum_11 calX11_requireBoring wm915 wm917 wm23 rfl rfl (rc_0 hr) (ci := 11) (by decide) rfl rfl (Nat.le_of_ble_eq_true rfl) ⟨⟨by decide, by decide⟩, by decide, by decide⟩ (cmX11_requireBoring hr hq7) (fun E h he hr => ?_) (fun r8 h he hr => ?_)
  · rw [he] at hf
    cases hf
    exact rx_out rfl ⟨rfl, hr⟩ (by decide) (by decide)
  rw [he] at hf
  dsimp only at hf
  refine rw_aload_n dX11_sum_14 0 rfl rfl ?_
  refine rw_iload_n dX11_sum_15 1 rfl rfl ?_
  refine rw_iload_n dX11_sum_16 2 rfl rfl ?_
  obtain ⟨q10, hq10, hf⟩ := bnd hf
  refine kV_Vx (ad := ad) (As := [.int a0, .int a1]) (st := []) dX11_sum_17 calX11_requireNeighbours wm996 wm998 wm25 rfl rfl (rc_0 hr) (ci := 11) (by decide) rfl rfl (Nat.le_of_ble_eq_true rfl) ⟨⟨by decide, by decide⟩, by decide, by decide⟩ (cmX11_requireNeighbours hr hq10) (fun E h he hr => ?_) (fun r11 h he hr => ?_)
  · rw [he] at hf
    cases hf
    exact rx_out rfl ⟨rfl, hr⟩ (by decide) (by decide)
  rw [he] at hf
  dsimp only at hf
  refine rw_aload_n dX11_sum_20 0 rfl rfl ?_
  refine sg_0_4 hr dX11_sum_21 fl446 ?_
  refine sg_18_0 hr dX11_sum_24 fl283 ?_
  refine rw_aload_n dX11_sum_27 0 rfl rfl ?_
  refine sg_0_3 hr dX11_sum_28 fl445 ?_
  refine rw_iload_n dX11_sum_31 1 rfl rfl ?_
  refine rw_iload_n dX11_sum_32 2 rfl rfl ?_
  obtain ⟨q13, hq13, hf⟩ := bnd hf
  refine kV_I (ad := ad) (As := [.int a0, .int a1]) (st := [.ref (ad 19)]) dX11_sum_33 calX6_joining wm1000 wm607 wm608 rfl rfl (rc_10 hr) (ci := 6) (by decide) rfl rfl (Nat.le_of_ble_eq_true rfl) ⟨⟨by decide, by decide⟩, by decide, by decide⟩ (cmX6_joining hr hq13) (fun h hr => ?_)
  obtain ⟨hi14, hf⟩ := grd hf
  refine sl_19 hr dX11_sum_36 (inB_in hi14) ?_
  replace hf := Option.some.inj hf
  subst hf
  exact rw_ireturn dX11_sum_37 rfl ⟨_, rfl, rfl, hr⟩ (by decide) (by decide)
