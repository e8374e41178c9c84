def jX11_section_81  (s0 : Int32) (σ : rS) : Option ((Except String Int32) × rS) := some (.ok s0, σ)
set_option maxHeartbeats 4000000 in
theorem t_jX11_section_81 {G : rG} {ad : Nat → Nat} {o : ((Except String Int32) × rS)}   (s0 : Int32) (σ : rS) (h : rH) (hr : Rep G ad σ h) (hf : jX11_section_81  s0 σ = some o) : RW G mX11_section (rm 8 6 36) (tI G ad o) (xT G ad o) 6 36 81 [] [.int s0] h := by
  unfold jX11_section_81 at hf
  replace hf := Option.some.inj hf
  subst hf
  exact rw_ireturn dX11_section_81 rfl ⟨_, rfl, rfl, hr⟩ (by decide) (by decide)
def fX11_section (a0 : Int32) (a1 : Int32) (a2 : Int32) (a3 : Int32) (σ : rS) : Option ((Except String Int32) × rS) := (fX11_requireRun σ).bind fun q1 => match q1.1 with | .error E3 => some (.error E3, q1.2) | .ok r2 => (fX11_requireBoring a0 q1.2).bind fun q4 => match q4.1 with | .error E6 => some (.error E6, q4.2) | .ok r5 => (fX11_requireBoring a1 q4.2).bind fun q7 => match q7.1 with | .error E9 => some (.error E9, q7.2) | .ok r8 => (fX11_requireNeighbours a0 a1 q7.2).bind fun q10 => match q10.1 with | .error E12 => some (.error E12, q10.2) | .ok r11 => (fX5_draw a0 a1 q10.2).bind fun q13 => (fX11_requireIndex a2 (q13.2.1 18 3) q13.2).bind fun q14 => match q14.1 with | .error E16 => some (.error E16, q14.2) | .ok r15 => (fX11_requireFrom 0 1 a3 q14.2).bind fun q17 => match q17.1 with | .error E19 => some (.error E19, q17.2) | .ok r18 => if a3 = 0 then if inB a2 24 then jX11_section_81 (q17.2.2.2.1 20 a2.toNatClampNeg) q17.2 else none else if inB a2 24 then jX11_section_81 (q17.2.2.2.1 21 a2.toNatClampNeg) q17.2 else none
set_option maxHeartbeats 4000000 in
theorem cmX11_section {G : rG} {ad : Nat → Nat} {a0 : Int32} {a1 : Int32} {a2 : Int32} {a3 : Int32} {σ : rS} {h : rH} {o : ((Except String Int32) × rS)} (hr : Rep G ad σ h) (hf : fX11_section a0 a1 a2 a3 σ = some o) : rMT G mX11_section (rm 8 6 36) [.ref (ad 0), .int a0, .int a1, .int a2, .int a3] h (tI G ad o) (xT G ad o) := by
  unfold fX11_section at hf
  refine rw_met (by decide +kernel) rfl (Nat.le_of_ble_eq_true rfl) ?_
  show RW G _ _ _ _ 0 0 0 [(0, .ref (ad 0)), (1, .int a0), (2, .int a1), (3, .int a2), (4, .int a3)] [] h
  refine rw_aload_n dX11_section_0 0 rfl rfl ?_
  obtain ⟨q1, hq1, hf⟩ := bnd hf
  refine kV_Vx (ad := ad) (As := []) (st := []) dX11_section_1 calX11_requireRun wm949 wm951 wm24 rfl rfl (rc_0 hr) (ci := 11) (by decide) rfl rfl (Nat.le_of_ble_eq_true rfl) ⟨⟨by decide, by decide⟩, by decide, by decide⟩ (cmX11_requireRun hr hq1) (fun E h he hr => ?_) (fun r2 h he hr => ?_)
  · rw [he] at hf
    cases hf
    exact rx_out rfl ⟨rfl, hr⟩ (by decide) (by decide)
  rw [he] at hf
  dsimp only at hf
  refine rw_aload_n dX11_section_4 0 rfl rfl ?_
  refine rw_iload_n dX11_section_5 1 rfl rfl ?_
  obtain ⟨q4, hq4, hf⟩ := bnd hf
  refine kV_Vx (ad := ad) (As := [.int a0]) (st := []) dX11_section_6 calX11_requireBoring wm915 wm917 wm23 rfl rfl (rc_0 hr) (ci := 11) (by decide) rfl rfl (Nat.le_of_ble_eq_true rfl) ⟨⟨by decide, by decide⟩, by decide, by decide⟩ (cmX11_requireBoring hr hq4) (fun E h he hr => ?_) (fun r5 h he hr => ?_)
  · rw [he] at hf
    cases hf
    exact rx_out rfl ⟨rfl, hr⟩ (by decide) (by decide)
  rw [he] at hf
  dsimp only at hf
  refine rw_aload_n dX11_section_9 0 rfl rfl ?_
  refine rw_iload_n dX11_section_10 2 rfl rfl ?_
  obtain ⟨q7, hq7, hf⟩ := bnd hf
  refine kV_Vx (ad := ad) (As := [.int a1]) (st := []) dX11_section_11 calX11_requireBoring wm915 wm917 wm23 rfl rfl (rc_0 hr) (ci := 11) (by decide) rfl rfl (Nat.le_of_ble_eq_true rfl) ⟨⟨by decide, by decide⟩, by decide, by decide⟩ (cmX11_requireBoring hr hq7) (fun E h he hr => ?_) (fun r8 h he hr => ?_)
  · rw [he] at hf
    cases hf
    exact rx_out rfl ⟨rfl, hr⟩ (by decide) (by decide)
  rw [he] at hf
  dsimp only at hf
  refine rw_aload_n dX11_section_14 0 rfl rfl ?_
  refine rw_iload_n dX11_section_15 1 rfl rfl ?_
  refine rw_iload_n dX11_section_16 2 rfl rfl ?_
  obtain ⟨q10, hq10, hf⟩ := bnd hf
  refine kV_Vx (ad := ad) (As := [.int a0, .int a1]) (st := []) dX11_section_17 calX11_requireNeighbours wm996 wm998 wm25 rfl rfl (rc_0 hr) (ci := 11) (by decide) rfl rfl (Nat.le_of_ble_eq_true rfl) ⟨⟨by decide, by decide⟩, by decide, by decide⟩ (cmX11_requireNeighbours hr hq10) (fun E h he hr => ?_) (fun r11 h he hr => ?_)
  · rw [he] at hf
    cases hf
    exact rx_out rfl ⟨rfl, hr⟩ (by decide) (by decide)
  rw [he] at hf
  dsimp only at hf
  refine rw_aload_n dX11_section_20 0 rfl rfl ?_
  refine sg_0_4 hr dX11_section_21 fl446 ?_
  refine rw_aload_n dX11_section_24 0 rfl rfl ?_
  refine sg_0_0 hr dX11_section_25 fl442 ?_
  refine rw_aload_n dX11_section_28 0 rfl rfl ?_
  refine sg_0_3 hr dX11_section_29 fl445 ?_
  refine rw_iload_n dX11_section_32 1 rfl rfl ?_
  refine rw_iload_n dX11_section_33 2 rfl rfl ?_
  obtain ⟨q13, hq13, hf⟩ := bnd hf
  refine kV_V (ad := ad) (As := [.ref (ad 1), .ref (ad 10), .int a0, .int a1]) (st := []) dX11_section_34 calX5_draw wm1016 wm1017 wm1018 rfl rfl (rc_18 hr) (ci := 5) (by decide) rfl rfl (Nat.le_of_ble_eq_true rfl) ⟨⟨by decide, by decide⟩, by decide, by decide⟩ (cmX5_draw hr hq13) (fun h hr => ?_)
  refine rw_iload_n dX11_section_37 3 rfl rfl ?_
  refine rw_aload_n dX11_section_38 0 rfl rfl ?_
  refine sg_0_4 hr dX11_section_39 fl446 ?_
  refine sg_18_3 hr dX11_section_42 fl289 ?_
  obtain ⟨q14, hq14, hf⟩ := bnd hf
  refine kS_Vx (ad := ad) (As := [.int a2, .int (q13.2.1 18 3)]) (st := []) dX11_section_45 calX11_requireIndex wm919 wm920 rfl rfl (Nat.le_of_ble_eq_true rfl) ⟨⟨by decide, by decide⟩, by decide, by decide⟩ (cmX11_requireIndex hr hq14) (fun E h he hr => ?_) (fun r15 h he hr => ?_)
  · rw [he] at hf
    cases hf
    exact rx_out rfl ⟨rfl, hr⟩ (by decide) (by decide)
  rw [he] at hf
  dsimp only at hf
  refine rw_iconst (v := 0) dX11_section_48 (by decide) ?_
  refine rw_iconst (v := 1) dX11_section_49 (by decide) ?_
  refine rw_iload dX11_section_50 4 rfl ?_
  obtain ⟨q17, hq17, hf⟩ := bnd hf
  refine kS_Vx (ad := ad) (As := [.int 0, .int 1, .int a3]) (st := []) dX11_section_52 calX11_requireFrom wm982 wm983 rfl rfl (Nat.le_of_ble_eq_true rfl) ⟨⟨by decide, by decide⟩, by decide, by decide⟩ (cmX11_requireFrom hr hq17) (fun E h he hr => ?_) (fun r18 h he hr => ?_)
  · rw [he] at hf
    cases hf
    exact rx_out rfl ⟨rfl, hr⟩ (by decide) (by decide)
  rw [he] at hf
  dsimp only at hf
  refine rw_iload dX11_section_55 4 rfl ?_
  refine rw_if_ne (tgt := 72) dX11_section_57 (by decide) (fun c20 => ?_) (fun c20 => ?_)
  · rw [if_neg c20] at hf
    refine rw_aload_n dX11_section_72 0 rfl rfl ?_
    refine sg_0_4 hr dX11_section_73 fl446 ?_
    refine sg_18_2 hr dX11_section_76 fl287 ?_
    refine rw_iload_n dX11_section_79 3 rfl rfl ?_
    obtain ⟨hi21, hf⟩ := grd hf
    refine sl_21 hr dX11_section_80 (inB_in hi21) ?_
    refine rw_sub [] rfl ?_
    exact t_jX11_section_81 (ad := ad) (G := G)  (q17.2.2.2.1 21 a2.toNatClampNeg) q17.2 _ hr hf
  · rw [if_pos c20] at hf
    refine rw_aload_n dX11_section_60 0 rfl rfl ?_
    refine sg_0_4 hr dX11_section_61 fl446 ?_
    refine sg_18_1 hr dX11_section_64 fl285 ?_
    refine rw_iload_n dX11_section_67 3 rfl rfl ?_
    obtain ⟨hi22, hf⟩ := grd hf
    refine sl_20 hr dX11_section_68 (inB_in hi22) ?_
    refine rw_goto (tgt := 81) dX11_section_69 (by decide) ?_
    refine rw_sub [] rfl ?_
    exact t_jX11_section_81 (ad := ad) (G := G)  (q17.2.2.2.1 20 a2.toNatClampNeg) q17.2 _ hr hf
def fX11_crosses  (σ : rS) : Option ((Except String Int32) × rS) := (fX11_requireRun σ).bind fun q1 => match q1.1 with | .error E3 => some (.error E3, q1.2) | .ok r2 => (fX5_anyCrosses q1.2).bind fun q4 => if q4.1 = 0 ∨ q4.1 = 1 then some (.ok q4.1, q4.2) else none
set_option maxHeartbeats 4000000 in
theorem cmX11_crosses {G : rG} {ad : Nat → Nat}  {σ : rS} {h : rH} {o : ((Except String Int32) × rS)} (hr : Rep G ad σ h) (hf : fX11_crosses  σ = some o) : rMT G mX11_crosses (rm 7 1 6) [.ref (ad 0)] h (tI G ad o) (xT G ad o) := by
  unfold fX11_crosses at hf
  refine rw_met (by decide +kernel) rfl (Nat.le_of_ble_eq_true rfl) ?_
  show RW G _ _ _ _ 0 0 0 [(0, .ref (ad 0))] [] h
  refine rw_aload_n dX11_crosses_0 0 rfl rfl ?_
  obtain ⟨q1, hq1, hf⟩ := bnd hf
  refine kV_Vx (ad := ad) (As := []) (st := []) dX11_crosses_1 calX11_requireRun wm949 wm951 wm24 rfl rfl (rc_0 hr) (ci := 11) (by decide) rfl rfl (Nat.le_of_ble_eq_true rfl) ⟨⟨by decide, by decide⟩, by decide, by decide⟩ (cmX11_requireRun hr hq1) (fun E h he hr => ?_) (fun r2 h he hr => ?_)
  · rw [he] at hf
    cases hf
    exact rx_out rfl ⟨rfl, hr⟩ (by decide) (by decide)
  rw [he] at hf
  dsimp only at hf
  refine rw_aload_n dX11_crosses_4 0 rfl rfl ?_
  refine sg_0_4 hr dX11_crosses_5 fl446 ?_
  refine rw_aload_n dX11_crosses_8 0 rfl rfl ?_
  refine sg_0_0 hr dX11_crosses_9 fl442 ?_
  refine rw_aload_n dX11_crosses_12 0 rfl rfl ?_
  refine sg_0_3 hr dX11_crosses_13 fl445 ?_
  obtain ⟨q4, hq4, hf⟩ := bnd hf
  refine kV_I (ad := ad) (As := [.ref (ad 1), .ref (ad 10)]) (st := []) dX11_crosses_16 calX5_anyCrosses wm1032 wm1033 wm1034 rfl rfl (rc_18 hr) (ci := 5) (by decide) rfl rfl (Nat.le_of_ble_eq_true rfl) ⟨⟨by decide, by decide⟩, by decide, by decide⟩ (cmX5_anyCrosses hr hq4) (fun h hr => ?_)
  obtain ⟨hz5, hf⟩ := grd hf
  replace hf := Option.some.inj hf
  subst hf
  exact rw_zreturn dX11_crosses_19 rfl (nar_z hz5) ⟨_, rfl, rfl, hr⟩ (by decide) (by decide)
def fX11_bed (a0 : Int32) (a1 : Int32) (σ : rS) : Option ((Except String Int32) × rS) := (fX11_requireRun σ).bind fun q1 => match q1.1 with | .error E3 => some (.error E3, q1.2) | .ok r2 => (fX11_requireIndex a0 (q1.2.1 25 5) q1.2).bind fun q4 => match q4.1 with | .error E6 => some (.error E6, q4.2) | .ok r5 => if a1 = 0 then if inB a0 192 then some (.ok (q4.2.2.2.1 27 a0.toNatClampNeg), q4.2) else none else if a1 = 1 then if inB a0 192 then (fJ6_bitCount_0f7a4 (q4.2.2.2.1 30 a0.toNatClampNeg) q4.2).bind fun q11 => some (.ok q11.1, q11.2) else none else if a1 = 2 then if inB a0 192 then some (.ok (q4.2.2.2.1 28 a0.toNatClampNeg), q4.2) else none else if a1 = 3 then if inB a0 192 then some (.ok ((q4.2.2.2.1 29 a0.toNatClampNeg) / 12), q4.2) else none else if a1 = 4 then if inB a0 192 then some (.ok ((q4.2.2.2.1 29 a0.toNatClampNeg) - (q4.2.2.2.1 29 a0.toNatClampNeg) / 12 * 12), q4.2) else none else some (.error "java/lang/IllegalArgumentException", q4.2)
set_option maxHeartbeats 4000000 in
theorem cmX11_bed {G : rG} {ad : Nat → Nat} {a0 : Int32} {a1 : Int32} {σ : rS} {h : rH} {o : ((Except String Int32) × rS)} (hr : Rep G ad σ h) (hf : fX11_bed a0 a1 σ = some o) : rMT G mX11_bed (rm 7 3 18) [.ref (ad 0), .int a0, .int a1] h (tI G ad o) (xT G ad o) := by
  unfold fX11_bed at hf
  refine rw_met (by decide +kernel) rfl (Nat.le_of_ble_eq_true rfl) ?_
  show RW G _ _ _ _ 0 0 0 [(0, .ref (ad 0)), (1, .int a0), (2, .int a1)] [] h
  refine rw_aload_n dX11_bed_0 0 rfl rfl ?_
  obtain ⟨q1, hq1, hf⟩ := bnd hf
  refine kV_Vx (ad := ad) (As := []) (st := []) dX11_bed_1 calX11_requireRun wm949 wm951 wm24 rfl rfl (rc_0 hr) (ci := 11) (by decide) rfl rfl (Nat.le_of_ble_eq_true rfl) ⟨⟨by decide, by decide⟩, by decide, by decide⟩ (cmX11_requireRun hr hq1) (fun E h he hr => ?_) (fun r2 h he hr => ?_)
  · rw [he] at hf
    cases hf
    exact rx_out rfl ⟨rfl, hr⟩ (by decide) (by decide)
  rw [he] at hf
  dsimp only at hf
  refine rw_iload_n dX11_bed_4 1 rfl rfl ?_
  refine rw_aload_n dX11_bed_5 0 rfl rfl ?_
  refine sg_0_5 hr dX11_bed_6 fl447 ?_
  refine sg_25_5 hr dX11_bed_9 fl325 ?_
  obtain ⟨q4, hq4, hf⟩ := bnd hf
  refine kS_Vx (ad := ad) (As := [.int a0, .int (q1.2.1 25 5)]) (st := []) dX11_bed_12 calX11_requireIndex wm919 wm920 rfl rfl (Nat.le_of_ble_eq_true rfl) ⟨⟨by decide, by decide⟩, by decide, by decide⟩ (cmX11_requireIndex hr hq4) (fun E h he hr => ?_) (fun r5 h he hr => ?_)
  · rw [he] at hf
    cases hf
    exact rx_out rfl ⟨rfl, hr⟩ (by decide) (by decide)
  rw [he] at hf
  dsimp only at hf
  refine rw_iload_n dX11_bed_15 2 rfl rfl ?_
  by_cases c7 : a1 = 0
  · rw [if_pos c7] at hf
    refine rw_top c7 (rw_tableIn (off := 36) (tgt := 52) dX11_bed_16 (by decide) (by decide) rfl (by decide) ?_)
    refine rw_aload_n dX11_bed_52 0 rfl rfl ?_
    refine sg_0_5 hr dX11_bed_53 fl447 ?_
    refine sg_25_1 hr dX11_bed_56 fl317 ?_
    refine rw_iload_n dX11_bed_59 1 rfl rfl ?_
    obtain ⟨hi8, hf⟩ := grd hf
    refine sl_27 hr dX11_bed_60 (inB_in hi8) ?_
    replace hf := Option.some.inj hf
    subst hf
    exact rw_ireturn dX11_bed_61 rfl ⟨_, rfl, rfl, hr⟩ (by decide) (by decide)
  rw [if_neg c7] at hf
  by_cases c9 : a1 = 1
  · rw [if_pos c9] at hf
    refine rw_top c9 (rw_tableIn (off := 46) (tgt := 62) dX11_bed_16 (by decide) (by decide) rfl (by decide) ?_)
    refine rw_aload_n dX11_bed_62 0 rfl rfl ?_
    refine sg_0_5 hr dX11_bed_63 fl447 ?_
    refine sg_25_4 hr dX11_bed_66 fl323 ?_
    refine rw_iload_n dX11_bed_69 1 rfl rfl ?_
    obtain ⟨hi10, hf⟩ := grd hf
    refine sl_30 hr dX11_bed_70 (inB_in hi10) ?_
    obtain ⟨q11, hq11, hf⟩ := bnd hf
    refine kS_I (ad := ad) (As := [.int (q4.2.2.2.1 30 a0.toNatClampNeg)]) (st := []) dX11_bed_71 calJ6_bitCount_0f7a4 wm1048 wm1049 rfl rfl (Nat.le_of_ble_eq_true rfl) ⟨⟨by decide, by decide⟩, by decide, by decide⟩ (cmJ6_bitCount_0f7a4 hr hq11) (fun h hr => ?_)
    replace hf := Option.some.inj hf
    subst hf
    exact rw_ireturn dX11_bed_74 rfl ⟨_, rfl, rfl, hr⟩ (by decide) (by decide)
  rw [if_neg c9] at hf
  by_cases c12 : a1 = 2
  · rw [if_pos c12] at hf
    refine rw_top c12 (rw_tableIn (off := 59) (tgt := 75) dX11_bed_16 (by decide) (by decide) rfl (by decide) ?_)
    refine rw_aload_n dX11_bed_75 0 rfl rfl ?_
    refine sg_0_5 hr dX11_bed_76 fl447 ?_
    refine sg_25_2 hr dX11_bed_79 fl319 ?_
    refine rw_iload_n dX11_bed_82 1 rfl rfl ?_
    obtain ⟨hi13, hf⟩ := grd hf
    refine sl_28 hr dX11_bed_83 (inB_in hi13) ?_
    replace hf := Option.some.inj hf
    subst hf
    exact rw_ireturn dX11_bed_84 rfl ⟨_, rfl, rfl, hr⟩ (by decide) (by decide)
  rw [if_neg c12] at hf
  by_cases c14 : a1 = 3
  · rw [if_pos c14] at hf
    refine rw_top c14 (rw_tableIn (off := 69) (tgt := 85) dX11_bed_16 (by decide) (by decide) rfl (by decide) ?_)
    refine rw_aload_n dX11_bed_85 0 rfl rfl ?_
    refine sg_0_5 hr dX11_bed_86 fl447 ?_
    refine sg_25_3 hr dX11_bed_89 fl321 ?_
    refine rw_iload_n dX11_bed_92 1 rfl rfl ?_
    obtain ⟨hi15, hf⟩ := grd hf
    refine sl_29 hr dX11_bed_93 (inB_in hi15) ?_
    refine rw_bipush (v := 12) dX11_bed_94 (by decide) ?_
    refine rw_idiv dX11_bed_96 (by decide) ?_
    replace hf := Option.some.inj hf
    subst hf
    exact rw_ireturn dX11_bed_97 rfl ⟨_, rfl, rfl, hr⟩ (by decide) (by decide)
  rw [if_neg c14] at hf
  by_cases c17 : a1 = 4
  · rw [if_pos c17] at hf
    refine rw_top c17 (rw_tableIn (off := 82) (tgt := 98) dX11_bed_16 (by decide) (by decide) rfl (by decide) ?_)
    refine rw_aload_n dX11_bed_98 0 rfl rfl ?_
    refine sg_0_5 hr dX11_bed_99 fl447 ?_
    refine sg_25_3 hr dX11_bed_102 fl321 ?_
    refine rw_iload_n dX11_bed_105 1 rfl rfl ?_
    obtain ⟨hi18, hf⟩ := grd hf
    refine sl_29 hr dX11_bed_106 (inB_in hi18) ?_
    refine rw_bipush (v := 12) dX11_bed_107 (by decide) ?_
    refine rw_irem dX11_bed_109 (by decide) ?_
    replace hf := Option.some.inj hf
    subst hf
    exact rw_ireturn dX11_bed_110 rfl ⟨_, rfl, rfl, hr⟩ (by decide) (by decide)
  rw [if_neg c17] at hf
  refine rw_tableOut (tgt := 111) dX11_bed_16 (tb_out5_0 c7 c9 c12 c14 c17) (by decide) ?_
  replace hf := Option.some.inj hf
  subst hf
  exact rw_throw (E := "java/lang/IllegalArgumentException") (names := ["java/lang/RuntimeException", "java/lang/Exception"]) dX11_bed_111 dX11_bed_114 dX11_bed_115 dX11_bed_118 rfl (by decide) (by decide +kernel) (by decide +kernel) wm823 wm81 (by decide +kernel) (by decide) (by decide) (by decide) (by decide) ⟨rfl, hr⟩
def fX11_bedOf (a0 : Int32) (a1 : Int32) (σ : rS) : Option ((Except String Int32) × rS) := (fX11_requireRun σ).bind fun q1 => match q1.1 with | .error E3 => some (.error E3, q1.2) | .ok r2 => (fX11_requireBoring a0 q1.2).bind fun q4 => match q4.1 with | .error E6 => some (.error E6, q4.2) | .ok r5 => if inB a0 16 then if isBo (80 + 4 * a0.toNatClampNeg) then (fX11_requireIndex a1 (q4.2.1 (80 + 4 * a0.toNatClampNeg) 4) q4.2).bind fun q9 => match q9.1 with | .error E11 => some (.error E11, q9.2) | .ok r10 => (fX11_slotOf a0 a1 q9.2).bind fun q12 => if inB q12.1 192 then some (.ok (q12.2.2.2.1 26 q12.1.toNatClampNeg), q12.2) else none else none else none
set_option maxHeartbeats 4000000 in
theorem cmX11_bedOf {G : rG} {ad : Nat → Nat} {a0 : Int32} {a1 : Int32} {σ : rS} {h : rH} {o : ((Except String Int32) × rS)} (hr : Rep G ad σ h) (hf : fX11_bedOf a0 a1 σ = some o) : rMT G mX11_bedOf (rm 8 3 18) [.ref (ad 0), .int a0, .int a1] h (tI G ad o) (xT G ad o) := by
  unfold fX11_bedOf at hf
  refine rw_met (by decide +kernel) rfl (Nat.le_of_ble_eq_true rfl) ?_
  show RW G _ _ _ _ 0 0 0 [(0, .ref (ad 0)), (1, .int a0), (2, .int a1)] [] h
  refine rw_aload_n dX11_bedOf_0 0 rfl rfl ?_
  obtain ⟨q1, hq1, hf⟩ := bnd hf
  refine kV_Vx (ad := ad) (As := []) (st := []) dX11_bedOf_1 calX11_requireRun wm949 wm951 wm24 rfl rfl (rc_0 hr) (ci := 11) (by decide) rfl rfl (Nat.le_of_ble_eq_true rfl) ⟨⟨by decide, by decide⟩, by decide, by decide⟩ (cmX11_requireRun hr hq1) (fun E h he hr => ?_) (fun r2 h he hr => ?_)
  · rw [he] at hf
    cases hf
    exact rx_out rfl ⟨rfl, hr⟩ (by decide) (by decide)
  rw [he] at hf
  dsimp only at hf
  refine rw_aload_n dX11_bedOf_4 0 rfl rfl ?_
  refine rw_iload_n dX11_bedOf_5 1 rfl rfl ?_
  obtain ⟨q4, hq4, hf⟩ := bnd hf
  refine kV_Vx (ad := ad) (As := [.int a0]) (st := []) dX11_bedOf_6 calX11_requireBoring wm915 wm917 wm23 rfl rfl (rc_0 hr) (ci := 11) (by decide) rfl rfl (Nat.le_of_ble_eq_true rfl) ⟨⟨by decide, by decide⟩, by decide, by decide⟩ (cmX11_requireBoring hr hq4) (fun E h he hr => ?_) (fun r5 h he hr => ?_)
  · rw [he] at hf
    cases hf
    exact rx_out rfl ⟨rfl, hr⟩ (by decide) (by decide)
  rw [he] at hf
  dsimp only at hf
  refine rw_iload_n dX11_bedOf_9 2 rfl rfl ?_
  refine rw_aload_n dX11_bedOf_10 0 rfl rfl ?_
  refine sg_0_0 hr dX11_bedOf_11 fl442 ?_
  refine sg_1_0 hr dX11_bedOf_14 fl167 ?_
  refine rw_iload_n dX11_bedOf_17 1 rfl rfl ?_
  obtain ⟨hi7, hf⟩ := grd hf
  refine sa_2 hr dX11_bedOf_18 (inB_in hi7) ?_
  obtain ⟨hp8, hf⟩ := grd hf
  refine sg_Bo_4 hr dX11_bedOf_19 fl149 hp8 ?_
  obtain ⟨q9, hq9, hf⟩ := bnd hf
  refine kS_Vx (ad := ad) (As := [.int a1, .int (q4.2.1 (80 + 4 * a0.toNatClampNeg) 4)]) (st := []) dX11_bedOf_22 calX11_requireIndex wm919 wm920 rfl rfl (Nat.le_of_ble_eq_true rfl) ⟨⟨by decide, by decide⟩, by decide, by decide⟩ (cmX11_requireIndex hr hq9) (fun E h he hr => ?_) (fun r10 h he hr => ?_)
  · rw [he] at hf
    cases hf
    exact rx_out rfl ⟨rfl, hr⟩ (by decide) (by decide)
  rw [he] at hf
  dsimp only at hf
  refine rw_aload_n dX11_bedOf_25 0 rfl rfl ?_
  refine sg_0_5 hr dX11_bedOf_26 fl447 ?_
  refine sg_25_0 hr dX11_bedOf_29 fl315 ?_
  refine rw_iload_n dX11_bedOf_32 1 rfl rfl ?_
  refine rw_iload_n dX11_bedOf_33 2 rfl rfl ?_
  obtain ⟨q12, hq12, hf⟩ := bnd hf
  refine kS_I (ad := ad) (As := [.int a0, .int a1]) (st := [.ref (ad 26)]) dX11_bedOf_34 calX11_slotOf wm1061 wm662 rfl rfl (Nat.le_of_ble_eq_true rfl) ⟨⟨by decide, by decide⟩, by decide, by decide⟩ (cmX11_slotOf hr hq12) (fun h hr => ?_)
  obtain ⟨hi13, hf⟩ := grd hf
  refine sl_26 hr dX11_bedOf_37 (inB_in hi13) ?_
  replace hf := Option.some.inj hf
  subst hf
  exact rw_ireturn dX11_bedOf_38 rfl ⟨_, rfl, rfl, hr⟩ (by decide) (by decide)
def fX11_requirePlace (a0 : Int32) (a1 : Int32) (σ : rS) : Option ((Except String Unit) × rS) := (fX11_isPlace a0 a1 σ).bind fun q1 => if q1.1 = 0 then some (.error "java/lang/IllegalArgumentException", q1.2) else some (.ok (), q1.2)
set_option maxHeartbeats 4000000 in
theorem cmX11_requirePlace {G : rG} {ad : Nat → Nat} {a0 : Int32} {a1 : Int32} {σ : rS} {h : rH} {o : ((Except String Unit) × rS)} (hr : Rep G ad σ h) (hf : fX11_requirePlace a0 a1 σ = some o) : rMT G mX11_requirePlace (rm 6 1 6) [.int a0, .int a1] h (tV G ad o) (xT G ad o) := by
  unfold fX11_requirePlace at hf
  refine rw_met (by decide +kernel) rfl (Nat.le_of_ble_eq_true rfl) ?_
  show RW G _ _ _ _ 0 0 0 [(0, .int a0), (1, .int a1)] [] h
  refine rw_iload_n dX11_requirePlace_0 0 rfl rfl ?_
  refine rw_iload_n dX11_requirePlace_1 1 rfl rfl ?_
  obtain ⟨q1, hq1, hf⟩ := bnd hf
  refine kS_I (ad := ad) (As := [.int a0, .int a1]) (st := []) dX11_requirePlace_2 calX11_isPlace wm496 wm497 rfl rfl (Nat.le_of_ble_eq_true rfl) ⟨⟨by decide, by decide⟩, by decide, by decide⟩ (cmX11_isPlace hr hq1) (fun h hr => ?_)
  refine rw_if_ne (tgt := 16) dX11_requirePlace_5 (by decide) (fun c2 => ?_) (fun c2 => ?_)
  · rw [if_neg c2] at hf
    replace hf := Option.some.inj hf
    subst hf
    exact rw_return dX11_requirePlace_16 rfl ⟨_, rfl, rfl, hr⟩ (by decide) (by decide)
  · rw [if_pos c2] at hf
    replace hf := Option.some.inj hf
    subst hf
    exact rw_throw (E := "java/lang/IllegalArgumentException") (names := ["java/lang/RuntimeException", "java/lang/Exception"]) dX11_requirePlace_8 dX11_requirePlace_11 dX11_requirePlace_12 dX11_requirePlace_15 rfl (by decide) (by decide +kernel) (by decide +kernel) wm823 wm81 (by decide +kernel) (by decide) (by decide) (by decide) (by decide) ⟨rfl, hr⟩
def jX11_at_82  (s0 : Int64) (σ : rS) : Option ((Except String Int64) × rS) := some (.ok s0, σ)
set_option maxHeartbeats 4000000 in
theorem t_jX11_at_82 {G : rG} {ad : Nat → Nat} {o : ((Except String Int64) × rS)}   (s0 : Int64) (σ : rS) (h : rH) (hr : Rep G ad σ h) (hf : jX11_at_82  s0 σ = some o) : RW G mX11_at (rm 7 4 24) (tJ G ad o) (xT G ad o) 4 24 82 [] [.long s0] h := by
  unfold jX11_at_82 at hf
  replace hf := Option.some.inj hf
  subst hf
  exact rw_lreturn dX11_at_82 rfl ⟨_, rfl, rfl, hr⟩ (by decide) (by decide)
def fX11_at (a0 : Int32) (a1 : Int32) (a2 : Int32) (a3 : Int32) (σ : rS) : Option ((Except String Int64) × rS) := (fX11_requireRun σ).bind fun q1 => match q1.1 with | .error E3 => some (.error E3, q1.2) | .ok r2 => (fX11_requireIndex a0 (q1.2.1 25 5) q1.2).bind fun q4 => match q4.1 with | .error E6 => some (.error E6, q4.2) | .ok r5 => (fX11_requirePlace a1 a2 q4.2).bind fun q7 => match q7.1 with | .error E9 => some (.error E9, q7.2) | .ok r8 => (fX11_requireFrom 0 1 a3 q7.2).bind fun q10 => match q10.1 with | .error E12 => some (.error E12, q10.2) | .ok r11 => (fX9_goTo a1 a2 q10.2).bind fun q13 => (fX9_find 25 a0 q13.2).bind fun q14 => if a3 = 0 then jX11_at_82 (q14.2.2.1 34 0) q14.2 else jX11_at_82 (q14.2.2.1 34 1) q14.2
set_option maxHeartbeats 4000000 in
theorem cmX11_at {G : rG} {ad : Nat → Nat} {a0 : Int32} {a1 : Int32} {a2 : Int32} {a3 : Int32} {σ : rS} {h : rH} {o : ((Except String Int64) × rS)} (hr : Rep G ad σ h) (hf : fX11_at a0 a1 a2 a3 σ = some o) : rMT G mX11_at (rm 7 4 24) [.ref (ad 0), .int a0, .int a1, .int a2, .int a3] h (tJ G ad o) (xT G ad o) := by
  unfold fX11_at at hf
  refine rw_met (by decide +kernel) rfl (Nat.le_of_ble_eq_true rfl) ?_
  show RW G _ _ _ _ 0 0 0 [(0, .ref (ad 0)), (1, .int a0), (2, .int a1), (3, .int a2), (4, .int a3)] [] h
  refine rw_aload_n dX11_at_0 0 rfl rfl ?_
  obtain ⟨q1, hq1, hf⟩ := bnd hf
  refine kV_Vx (ad := ad) (As := []) (st := []) dX11_at_1 calX11_requireRun wm949 wm951 wm24 rfl rfl (rc_0 hr) (ci := 11) (by decide) rfl rfl (Nat.le_of_ble_eq_true rfl) ⟨⟨by decide, by decide⟩, by decide, by decide⟩ (cmX11_requireRun hr hq1) (fun E h he hr => ?_) (fun r2 h he hr => ?_)
  · rw [he] at hf
    cases hf
    exact rx_out rfl ⟨rfl, hr⟩ (by decide) (by decide)
  rw [he] at hf
  dsimp only at hf
  refine rw_iload_n dX11_at_4 1 rfl rfl ?_
  refine rw_aload_n dX11_at_5 0 rfl rfl ?_
  refine sg_0_5 hr dX11_at_6 fl447 ?_
  refine sg_25_5 hr dX11_at_9 fl325 ?_
  obtain ⟨q4, hq4, hf⟩ := bnd hf
  refine kS_Vx (ad := ad) (As := [.int a0, .int (q1.2.1 25 5)]) (st := []) dX11_at_12 calX11_requireIndex wm919 wm920 rfl rfl (Nat.le_of_ble_eq_true rfl) ⟨⟨by decide, by decide⟩, by decide, by decide⟩ (cmX11_requireIndex hr hq4) (fun E h he hr => ?_) (fun r5 h he hr => ?_)
  · rw [he] at hf
    cases hf
    exact rx_out rfl ⟨rfl, hr⟩ (by decide) (by decide)
  rw [he] at hf
  dsimp only at hf
  refine rw_iload_n dX11_at_15 2 rfl rfl ?_
  refine rw_iload_n dX11_at_16 3 rfl rfl ?_
  obtain ⟨q7, hq7, hf⟩ := bnd hf
  refine kS_Vx (ad := ad) (As := [.int a1, .int a2]) (st := []) dX11_at_17 calX11_requirePlace wm1069 wm1070 rfl rfl (Nat.le_of_ble_eq_true rfl) ⟨⟨by decide, by decide⟩, by decide, by decide⟩ (cmX11_requirePlace hr hq7) (fun E h he hr => ?_) (fun r8 h he hr => ?_)
  · rw [he] at hf
    cases hf
    exact rx_out rfl ⟨rfl, hr⟩ (by decide) (by decide)
  rw [he] at hf
  dsimp only at hf
  refine rw_iconst (v := 0) dX11_at_20 (by decide) ?_
  refine rw_iconst (v := 1) dX11_at_21 (by decide) ?_
  refine rw_iload dX11_at_22 4 rfl ?_
  obtain ⟨q10, hq10, hf⟩ := bnd hf
  refine kS_Vx (ad := ad) (As := [.int 0, .int 1, .int a3]) (st := []) dX11_at_24 calX11_requireFrom wm982 wm983 rfl rfl (Nat.le_of_ble_eq_true rfl) ⟨⟨by decide, by decide⟩, by decide, by decide⟩ (cmX11_requireFrom hr hq10) (fun E h he hr => ?_) (fun r11 h he hr => ?_)
  · rw [he] at hf
    cases hf
    exact rx_out rfl ⟨rfl, hr⟩ (by decide) (by decide)
  rw [he] at hf
  dsimp only at hf
  refine rw_aload_n dX11_at_27 0 rfl rfl ?_
  refine sg_0_6 hr dX11_at_28 fl448 ?_
  refine rw_iload_n dX11_at_31 2 rfl rfl ?_
  refine rw_iload_n dX11_at_32 3 rfl rfl ?_
  refine rw_aload_n dX11_at_33 0 rfl rfl ?_
  refine sg_0_0 hr dX11_at_34 fl442 ?_
  refine rw_aload_n dX11_at_37 0 rfl rfl ?_
  refine sg_0_3 hr dX11_at_38 fl445 ?_
  obtain ⟨q13, hq13, hf⟩ := bnd hf
  refine kV_V (ad := ad) (As := [.int a1, .int a2, .ref (ad 1), .ref (ad 10)]) (st := []) dX11_at_41 calX9_goTo wm1072 wm1073 wm1074 rfl rfl (rc_34 hr) (ci := 9) (by decide) rfl rfl (Nat.le_of_ble_eq_true rfl) ⟨⟨by decide, by decide⟩, by decide, by decide⟩ (cmX9_goTo hr hq13) (fun h hr => ?_)
  refine rw_aload_n dX11_at_44 0 rfl rfl ?_
  refine sg_0_6 hr dX11_at_45 fl448 ?_
  refine rw_aload_n dX11_at_48 0 rfl rfl ?_
  refine sg_0_5 hr dX11_at_49 fl447 ?_
  refine rw_iload_n dX11_at_52 1 rfl rfl ?_
  refine rw_aload_n dX11_at_53 0 rfl rfl ?_
  refine sg_0_3 hr dX11_at_54 fl445 ?_
  obtain ⟨q14, hq14, hf⟩ := bnd hf
  refine kV_V (ad := ad) (As := [.ref (ad 25), .int a0, .ref (ad 10)]) (st := []) dX11_at_57 calX9_find wm1082 wm1083 wm1084 rfl rfl (rc_34 hr) (ci := 9) (by decide) rfl rfl (Nat.le_of_ble_eq_true rfl) ⟨⟨by decide, by decide⟩, by decide, by decide⟩ (cmX9_find hr hq14) (fun h hr => ?_)
  refine rw_iload dX11_at_60 4 rfl ?_
  refine rw_if_ne (tgt := 75) dX11_at_62 (by decide) (fun c15 => ?_) (fun c15 => ?_)
  · rw [if_neg c15] at hf
    refine rw_aload_n dX11_at_75 0 rfl rfl ?_
    refine sg_0_6 hr dX11_at_76 fl448 ?_
    refine sg_34_1 hr dX11_at_79 fl362 ?_
    refine rw_sub [] rfl ?_
    exact t_jX11_at_82 (ad := ad) (G := G)  (q14.2.2.1 34 1) q14.2 _ hr hf
  · rw [if_pos c15] at hf
    refine rw_aload_n dX11_at_65 0 rfl rfl ?_
    refine sg_0_6 hr dX11_at_66 fl448 ?_
    refine sg_34_0 hr dX11_at_69 fl360 ?_
    refine rw_goto (tgt := 82) dX11_at_72 (by decide) ?_
    refine rw_sub [] rfl ?_
    exact t_jX11_at_82 (ad := ad) (G := G)  (q14.2.2.1 34 0) q14.2 _ hr hf
def jX11_wet_78  (s0 : Int64) (σ : rS) : Option ((Except String Int64) × rS) := some (.ok s0, σ)
set_option maxHeartbeats 4000000 in
theorem t_jX11_wet_78 {G : rG} {ad : Nat → Nat} {o : ((Except String Int64) × rS)}   (s0 : Int64) (σ : rS) (h : rH) (hr : Rep G ad σ h) (hf : jX11_wet_78  s0 σ = some o) : RW G mX11_wet (rm 7 4 24) (tJ G ad o) (xT G ad o) 4 24 78 [] [.long s0] h := by
  unfold jX11_wet_78 at hf
  replace hf := Option.some.inj hf
  subst hf
  exact rw_lreturn dX11_wet_78 rfl ⟨_, rfl, rfl, hr⟩ (by decide) (by decide)
def fX11_wet (a0 : Int32) (a1 : Int32) (a2 : Int32) (a3 : Int32) (σ : rS) : Option ((Except String Int64) × rS) := (fX11_requireRun σ).bind fun q1 => match q1.1 with | .error E3 => some (.error E3, q1.2) | .ok r2 => (fX11_requireFrom 0 99 a0 q1.2).bind fun q4 => match q4.1 with | .error E6 => some (.error E6, q4.2) | .ok r5 => (fX11_requirePlace a1 a2 q4.2).bind fun q7 => match q7.1 with | .error E9 => some (.error E9, q7.2) | .ok r8 => (fX11_requireFrom 0 1 a3 q7.2).bind fun q10 => match q10.1 with | .error E12 => some (.error E12, q10.2) | .ok r11 => (fX9_goTo a1 a2 q10.2).bind fun q13 => (fX9_find 6 a0 q13.2).bind fun q14 => if a3 = 0 then jX11_wet_78 (q14.2.2.1 34 0) q14.2 else jX11_wet_78 (q14.2.2.1 34 1) q14.2
set_option maxHeartbeats 4000000 in
theorem cmX11_wet {G : rG} {ad : Nat → Nat} {a0 : Int32} {a1 : Int32} {a2 : Int32} {a3 : Int32} {σ : rS} {h : rH} {o : ((Except String Int64) × rS)} (hr : Rep G ad σ h) (hf : fX11_wet a0 a1 a2 a3 σ = some o) : rMT G mX11_wet (rm 7 4 24) [.ref (ad 0), .int a0, .int a1, .int a2, .int a3] h (tJ G ad o) (xT G ad o) := by
  unfold fX11_wet at hf
  refine rw_met (by decide +kernel) rfl (Nat.le_of_ble_eq_true rfl) ?_
  show RW G _ _ _ _ 0 0 0 [(0, .ref (ad 0)), (1, .int a0), (2, .int a1), (3, .int a2), (4, .int a3)] [] h
  refine rw_aload_n dX11_wet_0 0 rfl rfl ?_
  obtain ⟨q1, hq1, hf⟩ := bnd hf
  refine kV_Vx (ad := ad) (As := []) (st := []) dX11_wet_1 calX11_requireRun wm949 wm951 wm24 rfl rfl (rc_0 hr) (ci := 11) (by decide) rfl rfl (Nat.le_of_ble_eq_true rfl) ⟨⟨by decide, by decide⟩, by decide, by decide⟩ (cmX11_requireRun hr hq1) (fun E h he hr => ?_) (fun r2 h he hr => ?_)
  · rw [he] at hf
    cases hf
    exact rx_out rfl ⟨rfl, hr⟩ (by decide) (by decide)
  rw [he] at hf
  dsimp only at hf
  refine rw_iconst (v := 0) dX11_wet_4 (by decide) ?_
  refine rw_bipush (v := 99) dX11_wet_5 (by decide) ?_
  refine rw_iload_n dX11_wet_7 1 rfl rfl ?_
  obtain ⟨q4, hq4, hf⟩ := bnd hf
  refine kS_Vx (ad := ad) (As := [.int 0, .int 99, .int a0]) (st := []) dX11_wet_8 calX11_requireFrom wm982 wm983 rfl rfl (Nat.le_of_ble_eq_true rfl) ⟨⟨by decide, by decide⟩, by decide, by decide⟩ (cmX11_requireFrom hr hq4) (fun E h he hr => ?_) (fun r5 h he hr => ?_)
  · rw [he] at hf
    cases hf
    exact rx_out rfl ⟨rfl, hr⟩ (by decide) (by decide)
  rw [he] at hf
  dsimp only at hf
  refine rw_iload_n dX11_wet_11 2 rfl rfl ?_
  refine rw_iload_n dX11_wet_12 3 rfl rfl ?_
  obtain ⟨q7, hq7, hf⟩ := bnd hf
  refine kS_Vx (ad := ad) (As := [.int a1, .int a2]) (st := []) dX11_wet_13 calX11_requirePlace wm1069 wm1070 rfl rfl (Nat.le_of_ble_eq_true rfl) ⟨⟨by decide, by decide⟩, by decide, by decide⟩ (cmX11_requirePlace hr hq7) (fun E h he hr => ?_) (fun r8 h he hr => ?_)
  · rw [he] at hf
    cases hf
    exact rx_out rfl ⟨rfl, hr⟩ (by decide) (by decide)
  rw [he] at hf
  dsimp only at hf
  refine rw_iconst (v := 0) dX11_wet_16 (by decide) ?_
  refine rw_iconst (v := 1) dX11_wet_17 (by decide) ?_
  refine rw_iload dX11_wet_18 4 rfl ?_
  obtain ⟨q10, hq10, hf⟩ := bnd hf
  refine kS_Vx (ad := ad) (As := [.int 0, .int 1, .int a3]) (st := []) dX11_wet_20 calX11_requireFrom wm982 wm983 rfl rfl (Nat.le_of_ble_eq_true rfl) ⟨⟨by decide, by decide⟩, by decide, by decide⟩ (cmX11_requireFrom hr hq10) (fun E h he hr => ?_) (fun r11 h he hr => ?_)
  · rw [he] at hf
    cases hf
    exact rx_out rfl ⟨rfl, hr⟩ (by decide) (by decide)
  rw [he] at hf
  dsimp only at hf
  refine rw_aload_n dX11_wet_23 0 rfl rfl ?_
  refine sg_0_6 hr dX11_wet_24 fl448 ?_
  refine rw_iload_n dX11_wet_27 2 rfl rfl ?_
  refine rw_iload_n dX11_wet_28 3 rfl rfl ?_
  refine rw_aload_n dX11_wet_29 0 rfl rfl ?_
  refine sg_0_0 hr dX11_wet_30 fl442 ?_
  refine rw_aload_n dX11_wet_33 0 rfl rfl ?_
  refine sg_0_3 hr dX11_wet_34 fl445 ?_
  obtain ⟨q13, hq13, hf⟩ := bnd hf
  refine kV_V (ad := ad) (As := [.int a1, .int a2, .ref (ad 1), .ref (ad 10)]) (st := []) dX11_wet_37 calX9_goTo wm1072 wm1073 wm1074 rfl rfl (rc_34 hr) (ci := 9) (by decide) rfl rfl (Nat.le_of_ble_eq_true rfl) ⟨⟨by decide, by decide⟩, by decide, by decide⟩ (cmX9_goTo hr hq13) (fun h hr => ?_)
  refine rw_aload_n dX11_wet_40 0 rfl rfl ?_
  refine sg_0_6 hr dX11_wet_41 fl448 ?_
  refine rw_aload_n dX11_wet_44 0 rfl rfl ?_
  refine sg_0_2 hr dX11_wet_45 fl444 ?_
  refine rw_iload_n dX11_wet_48 1 rfl rfl ?_
  refine rw_aload_n dX11_wet_49 0 rfl rfl ?_
  refine sg_0_3 hr dX11_wet_50 fl445 ?_
  obtain ⟨q14, hq14, hf⟩ := bnd hf
  refine kV_V (ad := ad) (As := [.ref (ad 6), .int a0, .ref (ad 10)]) (st := []) dX11_wet_53 calX9_find wm1082 wm1083 wm1084 rfl rfl (rc_34 hr) (ci := 9) (by decide) rfl rfl (Nat.le_of_ble_eq_true rfl) ⟨⟨by decide, by decide⟩, by decide, by decide⟩ (cmX9_find hr hq14) (fun h hr => ?_)
  refine rw_iload dX11_wet_56 4 rfl ?_
  refine rw_if_ne (tgt := 71) dX11_wet_58 (by decide) (fun c15 => ?_) (fun c15 => ?_)
  · rw [if_neg c15] at hf
    refine rw_aload_n dX11_wet_71 0 rfl rfl ?_
    refine sg_0_6 hr dX11_wet_72 fl448 ?_
    refine sg_34_1 hr dX11_wet_75 fl362 ?_
    refine rw_sub [] rfl ?_
    exact t_jX11_wet_78 (ad := ad) (G := G)  (q14.2.2.1 34 1) q14.2 _ hr hf
  · rw [if_pos c15] at hf
    refine rw_aload_n dX11_wet_61 0 rfl rfl ?_
    refine sg_0_6 hr dX11_wet_62 fl448 ?_
    refine sg_34_0 hr dX11_wet_65 fl360 ?_
    refine rw_goto (tgt := 78) dX11_wet_68 (by decide) ?_
    refine rw_sub [] rfl ?_
    exact t_jX11_wet_78 (ad := ad) (G := G)  (q14.2.2.1 34 0) q14.2 _ hr hf
def jX11_isInBox_60   (σ : rS) : Option (Int32 × rS) := some (0, σ)
set_option maxHeartbeats 4000000 in
theorem t_jX11_isInBox_60 {G : rG} {ad : Nat → Nat} {o : (Int32 × rS)}    (σ : rS) (h : rH) (hr : Rep G ad σ h) (hf : jX11_isInBox_60   σ = some o) : RW G mX11_isInBox (rm 1 0 0) (qI G ad o) xN 0 0 60 [] [] h := by
  unfold jX11_isInBox_60 at hf
  refine rw_iconst (v := 0) dX11_isInBox_60 (by decide) ?_
  replace hf := Option.some.inj hf
  subst hf
  exact rw_zreturn dX11_isInBox_61 rfl (by decide) ⟨rfl, hr⟩ (by decide) (by decide)
def lX11_isInBox_3  : Nat → Int32 → Int32 → Int32 → Int32 → Int32 → Int32 → rS → Option (Int32 × rS)
  | 0, _, _, _, _, _, _, _ => none
  | n + 1, v1, v2, v3, v4, v5, v6, σ => if 3 ≤ v6 then some (1, σ) else (fX6_cornerOf v1 v6 σ).bind fun q2 => if inB q2.1 16 then if isBo (80 + 4 * q2.1.toNatClampNeg) then if isPl (80 + 4 * q2.1.toNatClampNeg + 1) then (fX11_isFrom v2 v4 (q2.2.1 (80 + 4 * q2.1.toNatClampNeg + 1) 0) q2.2).bind fun q6 => (if q6.1 = 0 then jX11_isInBox_60 q6.2 else if isPl (80 + 4 * q2.1.toNatClampNeg + 1) then (fX11_isFrom v3 v5 (q6.2.1 (80 + 4 * q2.1.toNatClampNeg + 1) 1) q6.2).bind fun q9 => (if q9.1 = 0 then jX11_isInBox_60 q9.2 else vI (v6 + 1) fun x11 => (lX11_isInBox_3 n) v1 v2 v3 v4 v5 x11 q9.2) else none) else none else none else none
set_option maxHeartbeats 4000000 in
theorem t_lX11_isInBox_3 {G : rG} {ad : Nat → Nat} {o : (Int32 × rS)}   : ∀ (n : Nat) (v1 : Int32) (v2 : Int32) (v3 : Int32) (v4 : Int32) (v5 : Int32) (v6 : Int32) (σ : rS) (h : rH), Rep G ad σ h → lX11_isInBox_3  n v1 v2 v3 v4 v5 v6 σ = some o → RW G mX11_isInBox (rm 1 0 0) (qI G ad o) xN 0 0 3 [(0, .ref (ad 0)), (1, .int v1), (2, .int v2), (3, .int v3), (4, .int v4), (5, .int v5), (6, .int v6)] [] h := by
  intro n
  induction n with
  | zero =>
    intro v1 v2 v3 v4 v5 v6 σ h hr hf
    rw [lX11_isInBox_3] at hf
    cases hf
  | succ n ih =>
    intro v1 v2 v3 v4 v5 v6 σ h hr hf
    rw [lX11_isInBox_3] at hf
    refine rw_iload dX11_isInBox_3 6 rfl ?_
    refine rw_iconst (v := 3) dX11_isInBox_5 (by decide) ?_
    refine rw_icmp_ge (tgt := 68) dX11_isInBox_6 (by decide) (fun c1 => ?_) (fun c1 => ?_)
    · rw [if_pos c1] at hf
      refine rw_iconst (v := 1) dX11_isInBox_68 (by decide) ?_
      replace hf := Option.some.inj hf
      subst hf
      exact rw_zreturn dX11_isInBox_69 rfl (by decide) ⟨rfl, hr⟩ (by decide) (by decide)
    · rw [if_neg c1] at hf
      refine rw_aload_n dX11_isInBox_9 0 rfl rfl ?_
      refine sg_0_0 hr dX11_isInBox_10 fl442 ?_
      refine sg_1_0 hr dX11_isInBox_13 fl167 ?_
      refine rw_aload_n dX11_isInBox_16 0 rfl rfl ?_
      refine sg_0_3 hr dX11_isInBox_17 fl445 ?_
      refine rw_iload_n dX11_isInBox_20 1 rfl rfl ?_
      refine rw_iload dX11_isInBox_21 6 rfl ?_
      obtain ⟨q2, hq2, hf⟩ := bnd hf
      refine kV_I (ad := ad) (As := [.int v1, .int v6]) (st := [.ref (ad 2)]) dX11_isInBox_23 calX6_cornerOf wm985 wm986 wm987 rfl rfl (rc_10 hr) (ci := 6) (by decide) rfl rfl (Nat.le_of_ble_eq_true rfl) ⟨⟨by decide, by decide⟩, by decide, by decide⟩ (cmX6_cornerOf hr hq2) (fun h hr => ?_)
      obtain ⟨hi3, hf⟩ := grd hf
      refine sa_2 hr dX11_isInBox_26 (inB_in hi3) ?_
      obtain ⟨hp4, hf⟩ := grd hf
      refine sg_Bo_0 hr dX11_isInBox_27 fl138 hp4 ?_
      refine rw_astore (lv2 := [(7, .ref (ad (80 + 4 * q2.1.toNatClampNeg + 1))), (0, .ref (ad 0)), (1, .int v1), (2, .int v2), (3, .int v3), (4, .int v4), (5, .int v5), (6, .int v6)]) dX11_isInBox_30 (by decide) rfl ?_
      refine rw_iload_n dX11_isInBox_32 3 rfl rfl ?_
      refine rw_iload dX11_isInBox_33 5 rfl ?_
      refine rw_aload dX11_isInBox_35 0 rfl ?_
      obtain ⟨hp5, hf⟩ := grd hf
      refine sg_Pl_0 hr dX11_isInBox_37 fl124 hp5 ?_
      obtain ⟨q6, hq6, hf⟩ := bnd hf
      refine kS_I (ad := ad) (As := [.int v2, .int v4, .int (q2.2.1 (80 + 4 * q2.1.toNatClampNeg + 1) 0)]) (st := []) dX11_isInBox_40 calX11_isFrom wm489 wm490 rfl rfl (Nat.le_of_ble_eq_true rfl) ⟨⟨by decide, by decide⟩, by decide, by decide⟩ (cmX11_isFrom hr hq6) (fun h hr => ?_)
      refine rw_if_eq (tgt := 60) dX11_isInBox_43 (by decide) (fun c7 => ?_) (fun c7 => ?_)
      · rw [if_pos c7] at hf
        refine rw_sub [] rfl ?_
        exact t_jX11_isInBox_60 (ad := ad) (G := G)  q6.2 _ hr hf
      · rw [if_neg c7] at hf
        refine rw_iload_n dX11_isInBox_46 4 rfl rfl ?_
        refine rw_iload dX11_isInBox_47 6 rfl ?_
        refine rw_aload dX11_isInBox_49 0 rfl ?_
        obtain ⟨hp8, hf⟩ := grd hf
        refine sg_Pl_1 hr dX11_isInBox_51 fl128 hp8 ?_
        obtain ⟨q9, hq9, hf⟩ := bnd hf
        refine kS_I (ad := ad) (As := [.int v3, .int v5, .int (q6.2.1 (80 + 4 * q2.1.toNatClampNeg + 1) 1)]) (st := []) dX11_isInBox_54 calX11_isFrom wm489 wm490 rfl rfl (Nat.le_of_ble_eq_true rfl) ⟨⟨by decide, by decide⟩, by decide, by decide⟩ (cmX11_isFrom hr hq9) (fun h hr => ?_)
        refine rw_if_ne (tgt := 62) dX11_isInBox_57 (by decide) (fun c10 => ?_) (fun c10 => ?_)
        · rw [if_neg c10] at hf
          refine rw_iinc (v := v6 + 1) (lv2 := [(6, .int (v6 + 1)), (7, .ref (ad (80 + 4 * q2.1.toNatClampNeg + 1))), (0, .ref (ad 0)), (1, .int v1), (2, .int v2), (3, .int v3), (4, .int v4), (5, .int v5)]) dX11_isInBox_62 7 rfl rfl (by decide) rfl ?_
          refine nmL hf (fun x11 hf => ?_)
          refine rw_goto (tgt := 3) dX11_isInBox_65 (by decide) ?_
          refine rw_sub [2, 3, 4, 5, 6, 7, 0] rfl ?_
          exact ih v1 v2 v3 v4 v5 x11 q9.2 _ hr hf
        · rw [if_pos c10] at hf
          refine rw_sub [] rfl ?_
          exact t_jX11_isInBox_60 (ad := ad) (G := G)  q9.2 _ hr hf
def fX11_isInBox (a0 : Int32) (a1 : Int32) (a2 : Int32) (a3 : Int32) (a4 : Int32) (σ : rS) : Option (Int32 × rS) := lX11_isInBox_3 1000 a0 a1 a2 a3 a4 0 σ
set_option maxHeartbeats 4000000 in
theorem cmX11_isInBox {G : rG} {ad : Nat → Nat} {a0 : Int32} {a1 : Int32} {a2 : Int32} {a3 : Int32} {a4 : Int32} {σ : rS} {h : rH} {o : (Int32 × rS)} (hr : Rep G ad σ h) (hf : fX11_isInBox a0 a1 a2 a3 a4 σ = some o) : rMT G mX11_isInBox (rm 1 0 0) [.ref (ad 0), .int a0, .int a1, .int a2, .int a3, .int a4] h (qI G ad o) xN := by
  unfold fX11_isInBox at hf
  refine rw_met (by decide +kernel) rfl (Nat.le_of_ble_eq_true rfl) ?_
  show RW G _ _ _ _ 0 0 0 [(0, .ref (ad 0)), (1, .int a0), (2, .int a1), (3, .int a2), (4, .int a3), (5, .int a4)] [] h
  refine rw_iconst (v := 0) dX11_isInBox_0 (by decide) ?_
  refine rw_istore (lv2 := [(6, .int 0), (0, .ref (ad 0)), (1, .int a0), (2, .int a1), (3, .int a2), (4, .int a3), (5, .int a4)]) dX11_isInBox_1 (by decide) rfl ?_
  refine rw_sub [1, 2, 3, 4, 5, 6, 0] rfl ?_
  exact t_lX11_isInBox_3 (ad := ad) (G := G)  1000 a0 a1 a2 a3 a4 0 σ _ hr hf
def jX11_volume_67 (k17 : Int32 → Int32 → Int32 → Int32 → Int32 → Int64 → Int32 → rS → Option ((Except String Int64) × rS)) (v1 : Int32) (v2 : Int32) (v3 : Int32) (v4 : Int32) (v5 : Int32) (v6 : Int64) (v8 : Int32) (σ : rS) : Option ((Except String Int64) × rS) := vI (v8 + 1) fun x12 => k17 v1 v2 v3 v4 v5 v6 x12 σ
set_option maxHeartbeats 4000000 in
theorem t_jX11_volume_67 {G : rG} {ad : Nat → Nat} {o : ((Except String Int64) × rS)} (k17 : Int32 → Int32 → Int32 → Int32 → Int32 → Int64 → Int32 → rS → Option ((Except String Int64) × rS)) (hk17 : ∀ (v1 : Int32) (v2 : Int32) (v3 : Int32) (v4 : Int32) (v5 : Int32) (v6 : Int64) (v8 : Int32) (σ : rS) (h : rH), Rep G ad σ h → k17 v1 v2 v3 v4 v5 v6 v8 σ = some o → RW G mX11_volume (rm 7 2 12) (tJ G ad o) (xT G ad o) 2 12 17 [(0, .ref (ad 0)), (1, .int v1), (2, .int v2), (3, .int v3), (4, .int v4), (5, .int v5), (6, .long v6), (8, .int v8)] [] h) (v1 : Int32) (v2 : Int32) (v3 : Int32) (v4 : Int32) (v5 : Int32) (v6 : Int64) (v8 : Int32) (σ : rS) (h : rH) (hr : Rep G ad σ h) (hf : jX11_volume_67 k17 v1 v2 v3 v4 v5 v6 v8 σ = some o) : RW G mX11_volume (rm 7 2 12) (tJ G ad o) (xT G ad o) 2 12 67 [(0, .ref (ad 0)), (1, .int v1), (2, .int v2), (3, .int v3), (4, .int v4), (5, .int v5), (6, .long v6), (8, .int v8)] [] h := by
  unfold jX11_volume_67 at hf
  refine rw_iinc (v := v8 + 1) (lv2 := [(8, .int (v8 + 1)), (0, .ref (ad 0)), (1, .int v1), (2, .int v2), (3, .int v3), (4, .int v4), (5, .int v5), (6, .long v6)]) dX11_volume_67 7 rfl rfl (by decide) rfl ?_
  refine nmL hf (fun x12 hf => ?_)
  refine rw_goto (tgt := 17) dX11_volume_70 (by decide) ?_
  refine rw_sub [1, 2, 3, 4, 5, 6, 7, 0] rfl ?_
  exact hk17 v1 v2 v3 v4 v5 v6 x12 σ _ hr hf
def lX11_volume_17  : Nat → Int32 → Int32 → Int32 → Int32 → Int32 → Int64 → Int32 → rS → Option ((Except String Int64) × rS)
  | 0, _, _, _, _, _, _, _, _ => none
  | n + 1, v1, v2, v3, v4, v5, v6, v8, σ => if (σ.1 10 6) ≤ v8 then some (.ok v6, σ) else (fX11_isInBox v8 v2 v3 v4 v5 σ).bind fun q8 => if q8.1 = 0 then jX11_volume_67 (lX11_volume_17 n) v1 v2 v3 v4 v5 v6 v8 q8.2 else (fX0_volumeIn v8 v1 (q8.2.1 0 10) q8.2).bind fun q10 => vJ (v6 + q10.1) fun x11 => jX11_volume_67 (lX11_volume_17 n) v1 v2 v3 v4 v5 x11 v8 q10.2
set_option maxHeartbeats 4000000 in
theorem t_lX11_volume_17 {G : rG} {ad : Nat → Nat} {o : ((Except String Int64) × rS)}   : ∀ (n : Nat) (v1 : Int32) (v2 : Int32) (v3 : Int32) (v4 : Int32) (v5 : Int32) (v6 : Int64) (v8 : Int32) (σ : rS) (h : rH), Rep G ad σ h → lX11_volume_17  n v1 v2 v3 v4 v5 v6 v8 σ = some o → RW G mX11_volume (rm 7 2 12) (tJ G ad o) (xT G ad o) 2 12 17 [(0, .ref (ad 0)), (1, .int v1), (2, .int v2), (3, .int v3), (4, .int v4), (5, .int v5), (6, .long v6), (8, .int v8)] [] h := by
  intro n
  induction n with
  | zero =>
    intro v1 v2 v3 v4 v5 v6 v8 σ h hr hf
    rw [lX11_volume_17] at hf
    cases hf
  | succ n ih =>
    intro v1 v2 v3 v4 v5 v6 v8 σ h hr hf
    rw [lX11_volume_17] at hf
    refine rw_iload dX11_volume_17 7 rfl ?_
    refine rw_aload_n dX11_volume_19 0 rfl rfl ?_
    refine sg_0_3 hr dX11_volume_20 fl445 ?_
    refine sg_10_6 hr dX11_volume_23 fl246 ?_
    refine rw_icmp_ge (tgt := 73) dX11_volume_26 (by decide) (fun c7 => ?_) (fun c7 => ?_)
    · rw [if_pos c7] at hf
      refine rw_lload dX11_volume_73 6 rfl ?_
      replace hf := Option.some.inj hf
      subst hf
      exact rw_lreturn dX11_volume_75 rfl ⟨_, rfl, rfl, hr⟩ (by decide) (by decide)
    · rw [if_neg c7] at hf
      refine rw_aload_n dX11_volume_29 0 rfl rfl ?_
      refine rw_iload dX11_volume_30 7 rfl ?_
      refine rw_iload_n dX11_volume_32 2 rfl rfl ?_
      refine rw_iload_n dX11_volume_33 3 rfl rfl ?_
      refine rw_iload dX11_volume_34 4 rfl ?_
      refine rw_iload dX11_volume_36 5 rfl ?_
      obtain ⟨q8, hq8, hf⟩ := bnd hf
      refine kV_I (ad := ad) (As := [.int v8, .int v2, .int v3, .int v4, .int v5]) (st := []) dX11_volume_38 calX11_isInBox wm1133 wm1135 wm29 rfl rfl (rc_0 hr) (ci := 11) (by decide) rfl rfl (Nat.le_of_ble_eq_true rfl) ⟨⟨by decide, by decide⟩, by decide, by decide⟩ (cmX11_isInBox hr hq8) (fun h hr => ?_)
      refine rw_if_eq (tgt := 67) dX11_volume_41 (by decide) (fun c9 => ?_) (fun c9 => ?_)
      · rw [if_pos c9] at hf
        exact t_jX11_volume_67 (ad := ad) (G := G) (lX11_volume_17 n) ih v1 v2 v3 v4 v5 v6 v8 q8.2 _ hr hf
      · rw [if_neg c9] at hf
        refine rw_lload dX11_volume_44 6 rfl ?_
        refine rw_aload_n dX11_volume_46 0 rfl rfl ?_
        refine sg_0_5 hr dX11_volume_47 fl447 ?_
        refine rw_aload_n dX11_volume_50 0 rfl rfl ?_
        refine sg_0_3 hr dX11_volume_51 fl445 ?_
        refine rw_iload dX11_volume_54 7 rfl ?_
        refine rw_iload_n dX11_volume_56 1 rfl rfl ?_
        refine rw_aload_n dX11_volume_57 0 rfl rfl ?_
        refine sg_0_10 hr dX11_volume_58 fl452 ?_
        obtain ⟨q10, hq10, hf⟩ := bnd hf
        refine kV_J (ad := ad) (As := [.ref (ad 10), .int v8, .int v1, .int (q8.2.1 0 10)]) (st := [.long v6]) dX11_volume_61 calX0_volumeIn wm1137 wm1138 wm1139 rfl rfl (rc_25 hr) (ci := 1) (by decide) rfl rfl (Nat.le_of_ble_eq_true rfl) ⟨⟨by decide, by decide⟩, by decide, by decide⟩ (cmX0_volumeIn hr hq10) (fun h hr => ?_)
        refine rw_ladd dX11_volume_64 ?_
        refine nmJ hf (fun x11 hf => ?_)
        refine rw_lstore (lv2 := [(6, .long x11), (0, .ref (ad 0)), (1, .int v1), (2, .int v2), (3, .int v3), (4, .int v4), (5, .int v5), (8, .int v8)]) dX11_volume_65 (by decide) rfl ?_
        refine rw_sub [1, 2, 3, 4, 5, 6, 0, 7] rfl ?_
        exact t_jX11_volume_67 (ad := ad) (G := G) (lX11_volume_17 n) ih v1 v2 v3 v4 v5 x11 v8 q10.2 _ hr hf
def fX11_volume (a0 : Int32) (a1 : Int32) (a2 : Int32) (a3 : Int32) (a4 : Int32) (σ : rS) : Option ((Except String Int64) × rS) := (fX11_requireRun σ).bind fun q1 => match q1.1 with | .error E3 => some (.error E3, q1.2) | .ok r2 => (fX11_requireFrom 0 7 a0 q1.2).bind fun q4 => match q4.1 with | .error E6 => some (.error E6, q4.2) | .ok r5 => lX11_volume_17 1000 a0 a1 a2 a3 a4 0 0 q4.2
set_option maxHeartbeats 4000000 in
theorem cmX11_volume {G : rG} {ad : Nat → Nat} {a0 : Int32} {a1 : Int32} {a2 : Int32} {a3 : Int32} {a4 : Int32} {σ : rS} {h : rH} {o : ((Except String Int64) × rS)} (hr : Rep G ad σ h) (hf : fX11_volume a0 a1 a2 a3 a4 σ = some o) : rMT G mX11_volume (rm 7 2 12) [.ref (ad 0), .int a0, .int a1, .int a2, .int a3, .int a4] h (tJ G ad o) (xT G ad o) := by
  unfold fX11_volume at hf
  refine rw_met (by decide +kernel) rfl (Nat.le_of_ble_eq_true rfl) ?_
  show RW G _ _ _ _ 0 0 0 [(0, .ref (ad 0)), (1, .int a0), (2, .int a1), (3, .int a2), (4, .int a3), (5, .int a4)] [] h
  refine rw_aload_n dX11_volume_0 0 rfl rfl ?_
  obtain ⟨q1, hq1, hf⟩ := bnd hf
  refine kV_Vx (ad := ad) (As := []) (st := []) dX11_volume_1 calX11_requireRun wm949 wm951 wm24 rfl rfl (rc_0 hr) (ci := 11) (by decide) rfl rfl (Nat.le_of_ble_eq_true rfl) ⟨⟨by decide, by decide⟩, by decide, by decide⟩ (cmX11_requireRun hr hq1) (fun E h he hr => ?_) (fun r2 h he hr => ?_)
  · rw [he] at hf
    cases hf
    exact rx_out rfl ⟨rfl, hr⟩ (by decide) (by decide)
  rw [he] at hf
  dsimp only at hf
  refine rw_iconst (v := 0) dX11_volume_4 (by decide) ?_
  refine rw_bipush (v := 7) dX11_volume_5 (by decide) ?_
  refine rw_iload_n dX11_volume_7 1 rfl rfl ?_
  obtain ⟨q4, hq4, hf⟩ := bnd hf
  refine kS_Vx (ad := ad) (As := [.int 0, .int 7, .int a0]) (st := []) dX11_volume_8 calX11_requireFrom wm982 wm983 rfl rfl (Nat.le_of_ble_eq_true rfl) ⟨⟨by decide, by decide⟩, by decide, by decide⟩ (cmX11_requireFrom hr hq4) (fun E h he hr => ?_) (fun r5 h he hr => ?_)
  · rw [he] at hf
    cases hf
    exact rx_out rfl ⟨rfl, hr⟩ (by decide) (by decide)
  rw [he] at hf
  dsimp only at hf
  refine rw_lconst (v := 0) dX11_volume_11 (by decide) ?_
  refine rw_lstore (lv2 := [(6, .long 0), (0, .ref (ad 0)), (1, .int a0), (2, .int a1), (3, .int a2), (4, .int a3), (5, .int a4)]) dX11_volume_12 (by decide) rfl ?_
  refine rw_iconst (v := 0) dX11_volume_14 (by decide) ?_
  refine rw_istore (lv2 := [(8, .int 0), (6, .long 0), (0, .ref (ad 0)), (1, .int a0), (2, .int a1), (3, .int a2), (4, .int a3), (5, .int a4)]) dX11_volume_15 (by decide) rfl ?_
  refine rw_sub [2, 3, 4, 5, 6, 7, 1, 0] rfl ?_
  exact t_lX11_volume_17 (ad := ad) (G := G)  1000 a0 a1 a2 a3 a4 0 0 q4.2 _ hr hf
def jX11_later_127 (k50 : Int32 → Int32 → Int32 → Int32 → rS → Option ((Except String Int32) × rS)) (v3 : Int32) (v4 : Int32) (v5 : Int32) (v6 : Int32) (σ : rS) : Option ((Except String Int32) × rS) := vI (v6 + 1) fun x22 => k50 v3 v4 v5 x22 σ
set_option maxHeartbeats 4000000 in
theorem t_jX11_later_127 {G : rG} {ad : Nat → Nat} {o : ((Except String Int32) × rS)} (k50 : Int32 → Int32 → Int32 → Int32 → rS → Option ((Except String Int32) × rS)) (hk50 : ∀ (v3 : Int32) (v4 : Int32) (v5 : Int32) (v6 : Int32) (σ : rS) (h : rH), Rep G ad σ h → k50 v3 v4 v5 v6 σ = some o → RW G mX11_later (rm 7 4 24) (tI G ad o) (xT G ad o) 4 24 50 [(0, .ref (ad 0)), (3, .int v3), (4, .int v4), (5, .int v5), (6, .int v6)] [] h) (v3 : Int32) (v4 : Int32) (v5 : Int32) (v6 : Int32) (σ : rS) (h : rH) (hr : Rep G ad σ h) (hf : jX11_later_127 k50 v3 v4 v5 v6 σ = some o) : RW G mX11_later (rm 7 4 24) (tI G ad o) (xT G ad o) 4 24 127 [(0, .ref (ad 0)), (3, .int v3), (4, .int v4), (5, .int v5), (6, .int v6)] [] h := by
  unfold jX11_later_127 at hf
  refine rw_iinc (v := v6 + 1) (lv2 := [(6, .int (v6 + 1)), (0, .ref (ad 0)), (3, .int v3), (4, .int v4), (5, .int v5)]) dX11_later_127 4 rfl rfl (by decide) rfl ?_
  refine nmL hf (fun x22 hf => ?_)
  refine rw_goto (tgt := 50) dX11_later_130 (by decide) ?_
  refine rw_sub [1, 2, 3, 4, 0] rfl ?_
  exact hk50 v3 v4 v5 x22 σ _ hr hf
def lX11_later_50  : Nat → Int32 → Int32 → Int32 → Int32 → rS → Option ((Except String Int32) × rS)
  | 0, _, _, _, _, _ => none
  | n + 1, v3, v4, v5, v6, σ => if (σ.1 25 5) ≤ v6 then some (.ok v5, σ) else if inB v6 192 then (if (σ.2.2.1 27 v6.toNatClampNeg) = v3 then (fX9_find 25 v6 σ).bind fun q17 => (fX9_isNear v4 (q17.2.1 0 11) q17.2).bind fun q18 => if q18.1 = 0 then (fX9_hasLevel q18.2).bind fun q20 => if q20.1 = 0 then jX11_later_127 (lX11_later_50 n) v3 v4 v5 v6 q20.2 else jX11_later_127 (lX11_later_50 n) v3 v4 1 v6 q20.2 else some (.ok 0, q18.2) else jX11_later_127 (lX11_later_50 n) v3 v4 v5 v6 σ) else none
set_option maxHeartbeats 4000000 in
theorem t_lX11_later_50 {G : rG} {ad : Nat → Nat} {o : ((Except String Int32) × rS)}   : ∀ (n : Nat) (v3 : Int32) (v4 : Int32) (v5 : Int32) (v6 : Int32) (σ : rS) (h : rH), Rep G ad σ h → lX11_later_50  n v3 v4 v5 v6 σ = some o → RW G mX11_later (rm 7 4 24) (tI G ad o) (xT G ad o) 4 24 50 [(0, .ref (ad 0)), (3, .int v3), (4, .int v4), (5, .int v5), (6, .int v6)] [] h := by
  intro n
  induction n with
  | zero =>
    intro v3 v4 v5 v6 σ h hr hf
    rw [lX11_later_50] at hf
    cases hf
  | succ n ih =>
    intro v3 v4 v5 v6 σ h hr hf
    rw [lX11_later_50] at hf
    refine rw_iload dX11_later_50 4 rfl ?_
    refine rw_aload_n dX11_later_52 0 rfl rfl ?_
    refine sg_0_5 hr dX11_later_53 fl447 ?_
    refine sg_25_5 hr dX11_later_56 fl325 ?_
    refine rw_icmp_ge (tgt := 133) dX11_later_59 (by decide) (fun c14 => ?_) (fun c14 => ?_)
    · rw [if_pos c14] at hf
      refine rw_iload dX11_later_133 3 rfl ?_
      replace hf := Option.some.inj hf
      subst hf
      exact rw_ireturn dX11_later_135 rfl ⟨_, rfl, rfl, hr⟩ (by decide) (by decide)
    · rw [if_neg c14] at hf
      refine rw_aload_n dX11_later_62 0 rfl rfl ?_
      refine sg_0_5 hr dX11_later_63 fl447 ?_
      refine sg_25_1 hr dX11_later_66 fl317 ?_
      refine rw_iload dX11_later_69 4 rfl ?_
      obtain ⟨hi15, hf⟩ := grd hf
      refine sl_27 hr dX11_later_71 (inB_in hi15) ?_
      refine rw_iload_n dX11_later_72 1 rfl rfl ?_
      refine rw_icmp_eq (tgt := 79) dX11_later_73 (by decide) (fun c16 => ?_) (fun c16 => ?_)
      · rw [if_pos c16] at hf
        refine rw_aload_n dX11_later_79 0 rfl rfl ?_
        refine sg_0_6 hr dX11_later_80 fl448 ?_
        refine rw_aload_n dX11_later_83 0 rfl rfl ?_
        refine sg_0_5 hr dX11_later_84 fl447 ?_
        refine rw_iload dX11_later_87 4 rfl ?_
        refine rw_aload_n dX11_later_89 0 rfl rfl ?_
        refine sg_0_3 hr dX11_later_90 fl445 ?_
        obtain ⟨q17, hq17, hf⟩ := bnd hf
        refine kV_V (ad := ad) (As := [.ref (ad 25), .int v6, .ref (ad 10)]) (st := []) dX11_later_93 calX9_find wm1082 wm1083 wm1084 rfl rfl (rc_34 hr) (ci := 9) (by decide) rfl rfl (Nat.le_of_ble_eq_true rfl) ⟨⟨by decide, by decide⟩, by decide, by decide⟩ (cmX9_find hr hq17) (fun h hr => ?_)
        refine rw_aload_n dX11_later_96 0 rfl rfl ?_
        refine sg_0_6 hr dX11_later_97 fl448 ?_
        refine rw_iload dX11_later_100 2 rfl ?_
        refine rw_aload_n dX11_later_102 0 rfl rfl ?_
        refine sg_0_11 hr dX11_later_103 fl453 ?_
        obtain ⟨q18, hq18, hf⟩ := bnd hf
        refine kV_I (ad := ad) (As := [.int v4, .int (q17.2.1 0 11)]) (st := []) dX11_later_106 calX9_isNear wm1158 wm1159 wm1160 rfl rfl (rc_34 hr) (ci := 9) (by decide) rfl rfl (Nat.le_of_ble_eq_true rfl) ⟨⟨by decide, by decide⟩, by decide, by decide⟩ (cmX9_isNear hr hq18) (fun h hr => ?_)
        refine rw_if_eq (tgt := 114) dX11_later_109 (by decide) (fun c19 => ?_) (fun c19 => ?_)
        · rw [if_pos c19] at hf
          refine rw_aload_n dX11_later_114 0 rfl rfl ?_
          refine sg_0_6 hr dX11_later_115 fl448 ?_
          obtain ⟨q20, hq20, hf⟩ := bnd hf
          refine kV_I (ad := ad) (As := []) (st := []) dX11_later_118 calX9_hasLevel wm1162 wm1106 wm1107 rfl rfl (rc_34 hr) (ci := 9) (by decide) rfl rfl (Nat.le_of_ble_eq_true rfl) ⟨⟨by decide, by decide⟩, by decide, by decide⟩ (cmX9_hasLevel hr hq20) (fun h hr => ?_)
          refine rw_if_eq (tgt := 127) dX11_later_121 (by decide) (fun c21 => ?_) (fun c21 => ?_)
          · rw [if_pos c21] at hf
            exact t_jX11_later_127 (ad := ad) (G := G) (lX11_later_50 n) ih v3 v4 v5 v6 q20.2 _ hr hf
          · rw [if_neg c21] at hf
            refine rw_iconst (v := 1) dX11_later_124 (by decide) ?_
            refine rw_istore (lv2 := [(5, .int 1), (0, .ref (ad 0)), (3, .int v3), (4, .int v4), (6, .int v6)]) dX11_later_125 (by decide) rfl ?_
            refine rw_sub [1, 2, 3, 0, 4] rfl ?_
            exact t_jX11_later_127 (ad := ad) (G := G) (lX11_later_50 n) ih v3 v4 1 v6 q20.2 _ hr hf
        · rw [if_neg c19] at hf
          refine rw_iconst (v := 0) dX11_later_112 (by decide) ?_
          replace hf := Option.some.inj hf
          subst hf
          exact rw_ireturn dX11_later_113 rfl ⟨_, rfl, rfl, hr⟩ (by decide) (by decide)
      · rw [if_neg c16] at hf
        refine rw_goto (tgt := 127) dX11_later_76 (by decide) ?_
        exact t_jX11_later_127 (ad := ad) (G := G) (lX11_later_50 n) ih v3 v4 v5 v6 σ _ hr hf
def fX11_later (a0 : Int32) (a1 : Int32) (a2 : Int32) (a3 : Int32) (σ : rS) : Option ((Except String Int32) × rS) := (fX11_requireRun σ).bind fun q1 => match q1.1 with | .error E3 => some (.error E3, q1.2) | .ok r2 => (fX11_requirePlace a0 a1 q1.2).bind fun q4 => match q4.1 with | .error E6 => some (.error E6, q4.2) | .ok r5 => (fX11_requireFrom 0 7 a2 q4.2).bind fun q7 => match q7.1 with | .error E9 => some (.error E9, q7.2) | .ok r8 => (fX11_requireFrom ((-100000)) 100000 a3 q7.2).bind fun q10 => match q10.1 with | .error E12 => some (.error E12, q10.2) | .ok r11 => (fX9_goTo a0 a1 q10.2).bind fun q13 => lX11_later_50 1000 a2 a3 2 0 q13.2
set_option maxHeartbeats 4000000 in
theorem cmX11_later {G : rG} {ad : Nat → Nat} {a0 : Int32} {a1 : Int32} {a2 : Int32} {a3 : Int32} {σ : rS} {h : rH} {o : ((Except String Int32) × rS)} (hr : Rep G ad σ h) (hf : fX11_later a0 a1 a2 a3 σ = some o) : rMT G mX11_later (rm 7 4 24) [.ref (ad 0), .int a0, .int a1, .int a2, .int a3] h (tI G ad o) (xT G ad o) := by
  unfold fX11_later at hf
  refine rw_met (by decide +kernel) rfl (Nat.le_of_ble_eq_true rfl) ?_
  show RW G _ _ _ _ 0 0 0 [(0, .ref (ad 0)), (1, .int a0), (2, .int a1), (3, .int a2), (4, .int a3)] [] h
  refine rw_aload_n dX11_later_0 0 rfl rfl ?_
  obtain ⟨q1, hq1, hf⟩ := bnd hf
  refine kV_Vx (ad := ad) (As := []) (st := []) dX11_later_1 calX11_requireRun wm949 wm951 wm24 rfl rfl (rc_0 hr) (ci := 11) (by decide) rfl rfl (Nat.le_of_ble_eq_true rfl) ⟨⟨by decide, by decide⟩, by decide, by decide⟩ (cmX11_requireRun hr hq1) (fun E h he hr => ?_) (fun r2 h he hr => ?_)
  · rw [he] at hf
    cases hf
    exact rx_out rfl ⟨rfl, hr⟩ (by decide) (by decide)
  rw [he] at hf
  dsimp only at hf
  refine rw_iload_n dX11_later_4 1 rfl rfl ?_
  refine rw_iload_n dX11_later_5 2 rfl rfl ?_
  obtain ⟨q4, hq4, hf⟩ := bnd hf
  refine kS_Vx (ad := ad) (As := [.int a0, .int a1]) (st := []) dX11_later_6 calX11_requirePlace wm1069 wm1070 rfl rfl (Nat.le_of_ble_eq_true rfl) ⟨⟨by decide, by decide⟩, by decide, by decide⟩ (cmX11_requirePlace hr hq4) (fun E h he hr => ?_) (fun r5 h he hr => ?_)
  · rw [he] at hf
    cases hf
    exact rx_out rfl ⟨rfl, hr⟩ (by decide) (by decide)
  rw [he] at hf
  dsimp only at hf
  refine rw_iconst (v := 0) dX11_later_9 (by decide) ?_
  refine rw_bipush (v := 7) dX11_later_10 (by decide) ?_
  refine rw_iload_n dX11_later_12 3 rfl rfl ?_
  obtain ⟨q7, hq7, hf⟩ := bnd hf
  refine kS_Vx (ad := ad) (As := [.int 0, .int 7, .int a2]) (st := []) dX11_later_13 calX11_requireFrom wm982 wm983 rfl rfl (Nat.le_of_ble_eq_true rfl) ⟨⟨by decide, by decide⟩, by decide, by decide⟩ (cmX11_requireFrom hr hq7) (fun E h he hr => ?_) (fun r8 h he hr => ?_)
  · rw [he] at hf
    cases hf
    exact rx_out rfl ⟨rfl, hr⟩ (by decide) (by decide)
  rw [he] at hf
  dsimp only at hf
  refine rw_ldcw (v := (-100000)) dX11_later_16 wm525 ?_
  refine rw_ldcw (v := 100000) dX11_later_19 wm526 ?_
  refine rw_iload dX11_later_22 4 rfl ?_
  obtain ⟨q10, hq10, hf⟩ := bnd hf
  refine kS_Vx (ad := ad) (As := [.int ((-100000)), .int 100000, .int a3]) (st := []) dX11_later_24 calX11_requireFrom wm982 wm983 rfl rfl (Nat.le_of_ble_eq_true rfl) ⟨⟨by decide, by decide⟩, by decide, by decide⟩ (cmX11_requireFrom hr hq10) (fun E h he hr => ?_) (fun r11 h he hr => ?_)
  · rw [he] at hf
    cases hf
    exact rx_out rfl ⟨rfl, hr⟩ (by decide) (by decide)
  rw [he] at hf
  dsimp only at hf
  refine rw_aload_n dX11_later_27 0 rfl rfl ?_
  refine sg_0_6 hr dX11_later_28 fl448 ?_
  refine rw_iload_n dX11_later_31 1 rfl rfl ?_
  refine rw_iload_n dX11_later_32 2 rfl rfl ?_
  refine rw_aload_n dX11_later_33 0 rfl rfl ?_
  refine sg_0_0 hr dX11_later_34 fl442 ?_
  refine rw_aload_n dX11_later_37 0 rfl rfl ?_
  refine sg_0_3 hr dX11_later_38 fl445 ?_
  obtain ⟨q13, hq13, hf⟩ := bnd hf
  refine kV_V (ad := ad) (As := [.int a0, .int a1, .ref (ad 1), .ref (ad 10)]) (st := []) dX11_later_41 calX9_goTo wm1072 wm1073 wm1074 rfl rfl (rc_34 hr) (ci := 9) (by decide) rfl rfl (Nat.le_of_ble_eq_true rfl) ⟨⟨by decide, by decide⟩, by decide, by decide⟩ (cmX9_goTo hr hq13) (fun h hr => ?_)
  refine rw_iconst (v := 2) dX11_later_44 (by decide) ?_
  refine rw_istore (lv2 := [(5, .int 2), (0, .ref (ad 0)), (1, .int a0), (2, .int a1), (3, .int a2), (4, .int a3)]) dX11_later_45 (by decide) rfl ?_
  refine rw_iconst (v := 0) dX11_later_47 (by decide) ?_
  refine rw_istore (lv2 := [(6, .int 0), (5, .int 2), (0, .ref (ad 0)), (1, .int a0), (2, .int a1), (3, .int a2), (4, .int a3)]) dX11_later_48 (by decide) rfl ?_
  refine rw_sub [2, 5, 6, 1, 0] rfl ?_
  exact t_lX11_later_50 (ad := ad) (G := G)  1000 a2 a3 2 0 q13.2 _ hr hf
def jX11_doubt_21  (s0 : Int32) (σ : rS) : Option (Int32 × rS) := some (s0, σ)
set_option maxHeartbeats 4000000 in
theorem t_jX11_doubt_21 {G : rG} {ad : Nat → Nat} {o : (Int32 × rS)}   (s0 : Int32) (σ : rS) (h : rH) (hr : Rep G ad σ h) (hf : jX11_doubt_21  s0 σ = some o) : RW G mX11_doubt (rm 2 0 0) (qI G ad o) xN 0 0 21 [] [.int s0] h := by
  unfold jX11_doubt_21 at hf
  replace hf := Option.some.inj hf
  subst hf
  exact rw_ireturn dX11_doubt_21 rfl ⟨rfl, hr⟩ (by decide) (by decide)
def fX11_doubt (a0 : Int32) (a1 : Int32) (σ : rS) : Option (Int32 × rS) := (fX11_isPlace a0 a1 σ).bind fun q1 => if q1.1 = 0 then jX11_doubt_21 ((-1)) q1.2 else (fX2_nearest a0 a1 q1.2).bind fun q3 => jX11_doubt_21 q3.1 q3.2
set_option maxHeartbeats 4000000 in
theorem cmX11_doubt {G : rG} {ad : Nat → Nat} {a0 : Int32} {a1 : Int32} {σ : rS} {h : rH} {o : (Int32 × rS)} (hr : Rep G ad σ h) (hf : fX11_doubt a0 a1 σ = some o) : rMT G mX11_doubt (rm 2 0 0) [.ref (ad 0), .int a0, .int a1] h (qI G ad o) xN := by
  unfold fX11_doubt at hf
  refine rw_met (by decide +kernel) rfl (Nat.le_of_ble_eq_true rfl) ?_
  show RW G _ _ _ _ 0 0 0 [(0, .ref (ad 0)), (1, .int a0), (2, .int a1)] [] h
  refine rw_iload_n dX11_doubt_0 1 rfl rfl ?_
  refine rw_iload_n dX11_doubt_1 2 rfl rfl ?_
  obtain ⟨q1, hq1, hf⟩ := bnd hf
  refine kS_I (ad := ad) (As := [.int a0, .int a1]) (st := []) dX11_doubt_2 calX11_isPlace wm496 wm497 rfl rfl (Nat.le_of_ble_eq_true rfl) ⟨⟨by decide, by decide⟩, by decide, by decide⟩ (cmX11_isPlace hr hq1) (fun h hr => ?_)
  refine rw_if_eq (tgt := 20) dX11_doubt_5 (by decide) (fun c2 => ?_) (fun c2 => ?_)
  · rw [if_pos c2] at hf
    refine rw_iconst (v := (-1)) dX11_doubt_20 (by decide) ?_
    refine rw_sub [] rfl ?_
    exact t_jX11_doubt_21 (ad := ad) (G := G)  ((-1)) q1.2 _ hr hf
  · rw [if_neg c2] at hf
    refine rw_aload_n dX11_doubt_8 0 rfl rfl ?_
    refine sg_0_0 hr dX11_doubt_9 fl442 ?_
    refine rw_iload_n dX11_doubt_12 1 rfl rfl ?_
    refine rw_iload_n dX11_doubt_13 2 rfl rfl ?_
    obtain ⟨q3, hq3, hf⟩ := bnd hf
    refine kV_I (ad := ad) (As := [.int a0, .int a1]) (st := []) dX11_doubt_14 calX2_nearest wm685 wm686 wm687 rfl rfl (rc_1 hr) (ci := 3) (by decide) rfl rfl (Nat.le_of_ble_eq_true rfl) ⟨⟨by decide, by decide⟩, by decide, by decide⟩ (cmX2_nearest hr hq3) (fun h hr => ?_)
    refine rw_goto (tgt := 21) dX11_doubt_17 (by decide) ?_
    refine rw_sub [] rfl ?_
    exact t_jX11_doubt_21 (ad := ad) (G := G)  q3.1 q3.2 _ hr hf
def fX11_unit (a0 : Int32) (σ : rS) : Option (Int32 × rS) := (fX8_add a0 σ).bind fun q1 => if q1.1 = 0 ∨ q1.1 = 1 then some (q1.1, q1.2) else none
set_option maxHeartbeats 4000000 in
theorem cmX11_unit {G : rG} {ad : Nat → Nat} {a0 : Int32} {σ : rS} {h : rH} {o : (Int32 × rS)} (hr : Rep G ad σ h) (hf : fX11_unit a0 σ = some o) : rMT G mX11_unit (rm 2 0 0) [.ref (ad 0), .int a0] h (qI G ad o) xN := by
  unfold fX11_unit at hf
  refine rw_met (by decide +kernel) rfl (Nat.le_of_ble_eq_true rfl) ?_
  show RW G _ _ _ _ 0 0 0 [(0, .ref (ad 0)), (1, .int a0)] [] h
  refine rw_aload_n dX11_unit_0 0 rfl rfl ?_
  refine sg_0_7 hr dX11_unit_1 fl449 ?_
  refine rw_iload_n dX11_unit_4 1 rfl rfl ?_
  obtain ⟨q1, hq1, hf⟩ := bnd hf
  refine kV_I (ad := ad) (As := [.int a0]) (st := []) dX11_unit_5 calX8_add wm694 wm695 wm696 rfl rfl (rc_38 hr) (ci := 8) (by decide) rfl rfl (Nat.le_of_ble_eq_true rfl) ⟨⟨by decide, by decide⟩, by decide, by decide⟩ (cmX8_add hr hq1) (fun h hr => ?_)
  obtain ⟨hz2, hf⟩ := grd hf
  replace hf := Option.some.inj hf
  subst hf
  exact rw_zreturn dX11_unit_8 rfl (nar_z hz2) ⟨rfl, hr⟩ (by decide) (by decide)
def jX11_read_38  (v1 : Int32) (σ : rS) : Option (Int32 × rS) := (fX8_clear σ).bind fun q7 => some (v1, q7.2)
set_option maxHeartbeats 4000000 in
theorem t_jX11_read_38 {G : rG} {ad : Nat → Nat} {o : (Int32 × rS)}   (v1 : Int32) (σ : rS) (h : rH) (hr : Rep G ad σ h) (hf : jX11_read_38  v1 σ = some o) : RW G mX11_read (rm 6 0 0) (qI G ad o) xN 0 0 38 [(0, .ref (ad 0)), (1, .int v1)] [] h := by
  unfold jX11_read_38 at hf
  refine rw_aload_n dX11_read_38 0 rfl rfl ?_
  refine sg_0_7 hr dX11_read_39 fl449 ?_
  obtain ⟨q7, hq7, hf⟩ := bnd hf
  refine kV_V (ad := ad) (As := []) (st := []) dX11_read_42 calX8_clear wm770 wm771 wm772 rfl rfl (rc_38 hr) (ci := 8) (by decide) rfl rfl (Nat.le_of_ble_eq_true rfl) ⟨⟨by decide, by decide⟩, by decide, by decide⟩ (cmX8_clear hr hq7) (fun h hr => ?_)
  refine rw_iload_n dX11_read_45 1 rfl rfl ?_
  replace hf := Option.some.inj hf
  subst hf
  exact rw_ireturn dX11_read_46 rfl ⟨rfl, hr⟩ (by decide) (by decide)
def fX11_read  (σ : rS) : Option (Int32 × rS) := (fX8_stageBorings σ).bind fun q1 => vI q1.1 fun x2 => if x2 ≤ 0 then (fX2_dropStaged q1.2).bind fun q4 => jX11_read_38 x2 q4.2 else vS (uI q1.2 0 12 0) fun σ5 => (fX2_keepStaged σ5).bind fun q6 => jX11_read_38 x2 q6.2
set_option maxHeartbeats 4000000 in
theorem cmX11_read {G : rG} {ad : Nat → Nat}  {σ : rS} {h : rH} {o : (Int32 × rS)} (hr : Rep G ad σ h) (hf : fX11_read  σ = some o) : rMT G mX11_read (rm 6 0 0) [.ref (ad 0)] h (qI G ad o) xN := by
  unfold fX11_read at hf
  refine rw_met (by decide +kernel) rfl (Nat.le_of_ble_eq_true rfl) ?_
  show RW G _ _ _ _ 0 0 0 [(0, .ref (ad 0))] [] h
  refine rw_aload_n dX11_read_0 0 rfl rfl ?_
  refine sg_0_7 hr dX11_read_1 fl449 ?_
  refine rw_aload_n dX11_read_4 0 rfl rfl ?_
  refine sg_0_0 hr dX11_read_5 fl442 ?_
  obtain ⟨q1, hq1, hf⟩ := bnd hf
  refine kV_I (ad := ad) (As := [.ref (ad 1)]) (st := []) dX11_read_8 calX8_stageBorings wm703 wm704 wm705 rfl rfl (rc_38 hr) (ci := 8) (by decide) rfl rfl (Nat.le_of_ble_eq_true rfl) ⟨⟨by decide, by decide⟩, by decide, by decide⟩ (cmX8_stageBorings hr hq1) (fun h hr => ?_)
  refine nmI hf (fun x2 hf => ?_)
  refine rw_istore_n (lv2 := [(1, .int x2), (0, .ref (ad 0))]) dX11_read_11 rfl (by decide) rfl ?_
  refine rw_iload_n dX11_read_12 0 rfl rfl ?_
  refine rw_if_le (tgt := 31) dX11_read_13 (by decide) (fun c3 => ?_) (fun c3 => ?_)
  · rw [if_pos c3] at hf
    refine rw_aload_n dX11_read_31 1 rfl rfl ?_
    refine sg_0_0 hr dX11_read_32 fl442 ?_
    obtain ⟨q4, hq4, hf⟩ := bnd hf
    refine kV_V (ad := ad) (As := []) (st := []) dX11_read_35 calX2_dropStaged wm766 wm767 wm768 rfl rfl (rc_1 hr) (ci := 3) (by decide) rfl rfl (Nat.le_of_ble_eq_true rfl) ⟨⟨by decide, by decide⟩, by decide, by decide⟩ (cmX2_dropStaged hr hq4) (fun h hr => ?_)
    refine rw_sub [1, 0] rfl ?_
    exact t_jX11_read_38 (ad := ad) (G := G)  x2 q4.2 _ hr hf
  · rw [if_neg c3] at hf
    refine rw_aload_n dX11_read_16 1 rfl rfl ?_
    refine rw_iconst (v := 0) dX11_read_17 (by decide) ?_
    refine sp_0_12 hr dX11_read_18 fl454 (by decide) (by decide) (fun h hr => ?_)
    refine nmS hf hr (fun σ5 hr hf => ?_)
    refine rw_aload_n dX11_read_21 1 rfl rfl ?_
    refine sg_0_0 hr dX11_read_22 fl442 ?_
    obtain ⟨q6, hq6, hf⟩ := bnd hf
    refine kV_V (ad := ad) (As := []) (st := []) dX11_read_25 calX2_keepStaged wm762 wm763 wm764 rfl rfl (rc_1 hr) (ci := 3) (by decide) rfl rfl (Nat.le_of_ble_eq_true rfl) ⟨⟨by decide, by decide⟩, by decide, by decide⟩ (cmX2_keepStaged hr hq6) (fun h hr => ?_)
    refine rw_goto (tgt := 38) dX11_read_28 (by decide) ?_
    refine rw_sub [1, 0] rfl ?_
    exact t_jX11_read_38 (ad := ad) (G := G)  x2 q6.2 _ hr hf
