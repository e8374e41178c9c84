def fX1_appendNumber (a1 : Int32) (σ : rS) : Option (Unit × rS) := (fJ4_append_cf468 32 σ).bind fun q1 => (fJ4_append_bf812 a1 q1.2).bind fun q2 => some ((), q2.2)
set_option maxHeartbeats 4000000 in
theorem cmX1_appendNumber {G : rG} {ad : Nat → Nat} {a1 : Int32} {σ : rS} {h : rH} {o : (Unit × rS)} (hr : Rep G ad σ h) (hf : fX1_appendNumber a1 σ = some o) : rMT G mX1_appendNumber (rm 6 2 284) [.ref (ad 40), .int a1] h (qV G ad o) xN := by
  unfold fX1_appendNumber at hf
  refine rw_met (by decide +kernel) rfl (Nat.le_of_ble_eq_true rfl) ?_
  show RW G _ _ _ _ 0 0 0 [(0, .ref (ad 40)), (1, .int a1)] [] h
  refine rw_aload_n dX1_appendNumber_0 0 rfl rfl ?_
  refine rw_bipush (v := 32) dX1_appendNumber_1 (by decide) ?_
  obtain ⟨q1, hq1, hf⟩ := bnd hf
  refine kV_A (ad := ad) (As := [.int 32]) (st := []) dX1_appendNumber_3 calJ4_append_cf468 wm1435 wm1436 wm1437 rfl rfl (rc_40 hr) (ci := 0) (by decide) rfl rfl (Nat.le_of_ble_eq_true rfl) ⟨⟨by decide, by decide⟩, by decide, by decide⟩ (cmJ4_append_cf468 hr hq1) (fun h hr => ?_)
  refine rw_pop dX1_appendNumber_6 rfl ?_
  refine rw_aload_n dX1_appendNumber_7 0 rfl rfl ?_
  refine rw_iload_n dX1_appendNumber_8 1 rfl rfl ?_
  obtain ⟨q2, hq2, hf⟩ := bnd hf
  refine kV_A (ad := ad) (As := [.int a1]) (st := []) dX1_appendNumber_9 calJ4_append_bf812 wm1455 wm1291 wm1292 rfl rfl (rc_40 hr) (ci := 0) (by decide) rfl rfl (Nat.le_of_ble_eq_true rfl) ⟨⟨by decide, by decide⟩, by decide, by decide⟩ (cmJ4_append_bf812 hr hq2) (fun h hr => ?_)
  refine rw_pop dX1_appendNumber_12 rfl ?_
  replace hf := Option.some.inj hf
  subst hf
  exact rw_return dX1_appendNumber_13 rfl ⟨rfl, hr⟩ (by decide) (by decide)
def lX1_writeTo_39  : Nat → Nat → Int32 → rS → Option (Unit × rS)
  | 0, _, _, _ => none
  | n + 1, v0, v2, σ => if isBo v0 then (if (σ.1 v0 4) ≤ v2 then (fJ4_append_cf468 32 σ).bind fun q12 => (fJ4_append_cf468 101 q12.2).bind fun q13 => some ((), q13.2) else if isBo v0 then if isKi (v0 + 2) then if inB v2 12 then (fX1_appendNumber (σ.2.2.1 (v0 + 2) v2.toNatClampNeg) σ).bind fun q17 => if isBo v0 then if isTh (v0 + 3) then if inB v2 12 then (fX1_appendNumber (q17.2.2.2.1 (v0 + 3) v2.toNatClampNeg) q17.2).bind fun q21 => vI (v2 + 1) fun x22 => (lX1_writeTo_39 n) v0 x22 q21.2 else none else none else none else none else none else none) else none
set_option maxHeartbeats 4000000 in
theorem t_lX1_writeTo_39 {G : rG} {ad : Nat → Nat} {o : (Unit × rS)}   : ∀ (n : Nat) (cc cs : Nat), cc + n * 4 + 2 ≤ 61 → cs + n * 568 + 284 ≤ 8662 → ∀ (v0 : Nat) (v2 : Int32) (σ : rS) (h : rH), Rep G ad σ h → lX1_writeTo_39  n v0 v2 σ = some o → RW G mX1_writeTo (rm 7 61 8662) (qV G ad o) xN cc cs 39 [(0, .ref (ad v0)), (1, .ref (ad 40)), (2, .int v2)] [] h := by
  intro n
  induction n with
  | zero =>
    intro cc cs hbc hbs v0 v2 σ h hr hf
    rw [lX1_writeTo_39] at hf
    cases hf
  | succ n ih =>
    intro cc cs hbc hbs v0 v2 σ h hr hf
    rw [lX1_writeTo_39] at hf
    refine rw_iload_n dX1_writeTo_39 2 rfl rfl ?_
    refine rw_aload_n dX1_writeTo_40 0 rfl rfl ?_
    obtain ⟨hp10, hf⟩ := grd hf
    refine sg_Bo_4 hr dX1_writeTo_41 fl147 hp10 ?_
    refine rw_icmp_ge (tgt := 73) dX1_writeTo_44 (by decide) (fun c11 => ?_) (fun c11 => ?_)
    · rw [if_pos c11] at hf
      refine rw_aload_n dX1_writeTo_73 1 rfl rfl ?_
      refine rw_bipush (v := 32) dX1_writeTo_74 (by decide) ?_
      obtain ⟨q12, hq12, hf⟩ := bnd hf
      refine kV_A (ad := ad) (As := [.int 32]) (st := []) dX1_writeTo_76 calJ4_append_cf468 wm1435 wm1436 wm1437 rfl rfl (rc_40 hr) (ci := 0) (by decide) rfl rfl (Nat.le_of_ble_eq_true rfl) ⟨⟨by decide, by decide⟩, by show cc + 1 ≤ 61; omega, by show cs + 142 ≤ 8662; omega⟩ (cmJ4_append_cf468 hr hq12) (fun h hr => ?_)
      refine rw_pop dX1_writeTo_79 rfl ?_
      refine rw_aload_n dX1_writeTo_80 1 rfl rfl ?_
      refine rw_bipush (v := 101) dX1_writeTo_81 (by decide) ?_
      obtain ⟨q13, hq13, hf⟩ := bnd hf
      refine kV_A (ad := ad) (As := [.int 101]) (st := []) dX1_writeTo_83 calJ4_append_cf468 wm1435 wm1436 wm1437 rfl rfl (rc_40 hr) (ci := 0) (by decide) rfl rfl (Nat.le_of_ble_eq_true rfl) ⟨⟨by decide, by decide⟩, by show (cc + 1) + 1 ≤ 61; omega, by show (cs + 142) + 142 ≤ 8662; omega⟩ (cmJ4_append_cf468 hr hq13) (fun h hr => ?_)
      refine rw_pop dX1_writeTo_86 rfl ?_
      replace hf := Option.some.inj hf
      subst hf
      exact rw_return dX1_writeTo_87 rfl ⟨rfl, hr⟩ (by show (cc + 2) ≤ 61; omega) (by show (cs + 284) ≤ 8662; omega)
    · rw [if_neg c11] at hf
      refine rw_aload_n dX1_writeTo_47 1 rfl rfl ?_
      refine rw_aload_n dX1_writeTo_48 0 rfl rfl ?_
      obtain ⟨hp14, hf⟩ := grd hf
      refine sg_Bo_1 hr dX1_writeTo_49 fl139 hp14 ?_
      refine rw_iload_n dX1_writeTo_52 2 rfl rfl ?_
      obtain ⟨hp16, hf⟩ := grd hf
      obtain ⟨hi15, hf⟩ := grd hf
      refine sl_Ki hr dX1_writeTo_53 hp16 (inB_in hi15) ?_
      obtain ⟨q17, hq17, hf⟩ := bnd hf
      refine kS_V (ad := ad) (As := [.ref (ad 40), .int (σ.2.2.1 (v0 + 2) v2.toNatClampNeg)]) (st := []) dX1_writeTo_54 calX1_appendNumber wm1452 wm1453 rfl rfl (Nat.le_of_ble_eq_true rfl) ⟨⟨by decide, by decide⟩, by show cc + 2 ≤ 61; omega, by show cs + 284 ≤ 8662; omega⟩ (cmX1_appendNumber hr hq17) (fun h hr => ?_)
      refine rw_aload_n dX1_writeTo_57 1 rfl rfl ?_
      refine rw_aload_n dX1_writeTo_58 0 rfl rfl ?_
      obtain ⟨hp18, hf⟩ := grd hf
      refine sg_Bo_2 hr dX1_writeTo_59 fl142 hp18 ?_
      refine rw_iload_n dX1_writeTo_62 2 rfl rfl ?_
      obtain ⟨hp20, hf⟩ := grd hf
      obtain ⟨hi19, hf⟩ := grd hf
      refine sl_Th hr dX1_writeTo_63 hp20 (inB_in hi19) ?_
      obtain ⟨q21, hq21, hf⟩ := bnd hf
      refine kS_V (ad := ad) (As := [.ref (ad 40), .int (q17.2.2.2.1 (v0 + 3) v2.toNatClampNeg)]) (st := []) dX1_writeTo_64 calX1_appendNumber wm1452 wm1453 rfl rfl (Nat.le_of_ble_eq_true rfl) ⟨⟨by decide, by decide⟩, by show (cc + 2) + 2 ≤ 61; omega, by show (cs + 284) + 284 ≤ 8662; omega⟩ (cmX1_appendNumber hr hq21) (fun h hr => ?_)
      refine rw_iinc (v := v2 + 1) (lv2 := [(2, .int (v2 + 1)), (0, .ref (ad v0)), (1, .ref (ad 40))]) dX1_writeTo_67 2 rfl rfl (by decide) rfl ?_
      refine nmL hf (fun x22 hf => ?_)
      refine rw_goto (tgt := 39) dX1_writeTo_70 (by decide) ?_
      refine rw_sub [1, 2, 0] rfl ?_
      exact ih (cc + 4) (cs + 568) (by omega) (by omega) v0 x22 q21.2 _ hr hf
def fX1_writeTo (n0 : Nat) (σ : rS) : Option (Unit × rS) := (fJ4_append_cf468 98 σ).bind fun q1 => if isBo n0 then if isPl (n0 + 1) then (fX1_appendNumber (q1.2.1 (n0 + 1) 0) q1.2).bind fun q4 => if isBo n0 then if isPl (n0 + 1) then (fX1_appendNumber (q4.2.1 (n0 + 1) 1) q4.2).bind fun q7 => if isBo n0 then (fX1_appendNumber (q7.2.1 n0 3) q7.2).bind fun q9 => lX1_writeTo_39 13 n0 0 q9.2 else none else none else none else none else none
set_option maxHeartbeats 4000000 in
theorem cmX1_writeTo {G : rG} {ad : Nat → Nat} {n0 : Nat} {σ : rS} {h : rH} {o : (Unit × rS)} (hr : Rep G ad σ h) (hf : fX1_writeTo n0 σ = some o) : rMT G mX1_writeTo (rm 7 61 8662) [.ref (ad n0), .ref (ad 40)] h (qV G ad o) xN := by
  unfold fX1_writeTo at hf
  refine rw_met (by decide +kernel) rfl (Nat.le_of_ble_eq_true rfl) ?_
  show RW G _ _ _ _ 0 0 0 [(0, .ref (ad n0)), (1, .ref (ad 40))] [] h
  refine rw_aload_n dX1_writeTo_0 1 rfl rfl ?_
  refine rw_bipush (v := 98) dX1_writeTo_1 (by decide) ?_
  obtain ⟨q1, hq1, hf⟩ := bnd hf
  refine kV_A (ad := ad) (As := [.int 98]) (st := []) dX1_writeTo_3 calJ4_append_cf468 wm1435 wm1436 wm1437 rfl rfl (rc_40 hr) (ci := 0) (by decide) rfl rfl (Nat.le_of_ble_eq_true rfl) ⟨⟨by decide, by decide⟩, by decide, by decide⟩ (cmJ4_append_cf468 hr hq1) (fun h hr => ?_)
  refine rw_pop dX1_writeTo_6 rfl ?_
  refine rw_aload_n dX1_writeTo_7 1 rfl rfl ?_
  refine rw_aload_n dX1_writeTo_8 0 rfl rfl ?_
  obtain ⟨hp2, hf⟩ := grd hf
  refine sg_Bo_0 hr dX1_writeTo_9 fl134 hp2 ?_
  obtain ⟨hp3, hf⟩ := grd hf
  refine sg_Pl_0 hr dX1_writeTo_12 fl122 hp3 ?_
  obtain ⟨q4, hq4, hf⟩ := bnd hf
  refine kS_V (ad := ad) (As := [.ref (ad 40), .int (q1.2.1 (n0 + 1) 0)]) (st := []) dX1_writeTo_15 calX1_appendNumber wm1452 wm1453 rfl rfl (Nat.le_of_ble_eq_true rfl) ⟨⟨by decide, by decide⟩, by decide, by decide⟩ (cmX1_appendNumber hr hq4) (fun h hr => ?_)
  refine rw_aload_n dX1_writeTo_18 1 rfl rfl ?_
  refine rw_aload_n dX1_writeTo_19 0 rfl rfl ?_
  obtain ⟨hp5, hf⟩ := grd hf
  refine sg_Bo_0 hr dX1_writeTo_20 fl134 hp5 ?_
  obtain ⟨hp6, hf⟩ := grd hf
  refine sg_Pl_1 hr dX1_writeTo_23 fl126 hp6 ?_
  obtain ⟨q7, hq7, hf⟩ := bnd hf
  refine kS_V (ad := ad) (As := [.ref (ad 40), .int (q4.2.1 (n0 + 1) 1)]) (st := []) dX1_writeTo_26 calX1_appendNumber wm1452 wm1453 rfl rfl (Nat.le_of_ble_eq_true rfl) ⟨⟨by decide, by decide⟩, by decide, by decide⟩ (cmX1_appendNumber hr hq7) (fun h hr => ?_)
  refine rw_aload_n dX1_writeTo_29 1 rfl rfl ?_
  refine rw_aload_n dX1_writeTo_30 0 rfl rfl ?_
  obtain ⟨hp8, hf⟩ := grd hf
  refine sg_Bo_3 hr dX1_writeTo_31 fl145 hp8 ?_
  obtain ⟨q9, hq9, hf⟩ := bnd hf
  refine kS_V (ad := ad) (As := [.ref (ad 40), .int (q7.2.1 n0 3)]) (st := []) dX1_writeTo_34 calX1_appendNumber wm1452 wm1453 rfl rfl (Nat.le_of_ble_eq_true rfl) ⟨⟨by decide, by decide⟩, by decide, by decide⟩ (cmX1_appendNumber hr hq9) (fun h hr => ?_)
  refine rw_iconst (v := 0) dX1_writeTo_37 (by decide) ?_
  refine rw_istore_n (lv2 := [(2, .int 0), (0, .ref (ad n0)), (1, .ref (ad 40))]) dX1_writeTo_38 rfl (by decide) rfl ?_
  refine rw_sub [1, 2, 0] rfl ?_
  exact t_lX1_writeTo_39 (ad := ad) (G := G)  13 7 994 (by omega) (by omega) n0 0 q9.2 _ hr hf
def fX11_write (a0 : Int32) (σ : rS) : Option ((Except String Int32) × rS) := (fX11_requireBoring a0 σ).bind fun q1 => match q1.1 with | .error E3 => some (.error E3, q1.2) | .ok r2 => (fJ4_setLength_d00df 0 q1.2).bind fun q4 => if inB a0 16 then if isBo (80 + 4 * a0.toNatClampNeg) then (fX1_writeTo (80 + 4 * a0.toNatClampNeg) q4.2).bind fun q6 => (fJ4_length_8abf5 q6.2).bind fun q8 => some (.ok q8.1, q8.2) else none else none
set_option maxHeartbeats 4000000 in
theorem cmX11_write {G : rG} {ad : Nat → Nat} {a0 : Int32} {σ : rS} {h : rH} {o : ((Except String Int32) × rS)} (hr : Rep G ad σ h) (hf : fX11_write a0 σ = some o) : rMT G mX11_write (rm 8 63 8810) [.ref (ad 0), .int a0] h (tI G ad o) (xT G ad o) := by
  unfold fX11_write at hf
  refine rw_met (by decide +kernel) rfl (Nat.le_of_ble_eq_true rfl) ?_
  show RW G _ _ _ _ 0 0 0 [(0, .ref (ad 0)), (1, .int a0)] [] h
  refine rw_aload_n dX11_write_0 0 rfl rfl ?_
  refine rw_iload_n dX11_write_1 1 rfl rfl ?_
  obtain ⟨q1, hq1, hf⟩ := bnd hf
  refine kV_Vx (ad := ad) (As := [.int a0]) (st := []) dX11_write_2 calX11_requireBoring wm915 wm917 wm23 rfl rfl (rc_0 hr) (ci := 11) (by decide) rfl rfl (Nat.le_of_ble_eq_true rfl) ⟨⟨by decide, by decide⟩, by decide, by decide⟩ (cmX11_requireBoring hr hq1) (fun E h he hr => ?_) (fun r2 h he hr => ?_)
  · rw [he] at hf
    cases hf
    exact rx_out rfl ⟨rfl, hr⟩ (by decide) (by decide)
  rw [he] at hf
  dsimp only at hf
  refine rw_aload_n dX11_write_5 0 rfl rfl ?_
  refine sg_0_8 hr dX11_write_6 fl450 ?_
  refine rw_iconst (v := 0) dX11_write_9 (by decide) ?_
  obtain ⟨q4, hq4, hf⟩ := bnd hf
  refine kV_V (ad := ad) (As := [.int 0]) (st := []) dX11_write_10 calJ4_setLength_d00df wm1170 wm1171 wm1172 rfl rfl (rc_40 hr) (ci := 0) (by decide) rfl rfl (Nat.le_of_ble_eq_true rfl) ⟨⟨by decide, by decide⟩, by decide, by decide⟩ (cmJ4_setLength_d00df hr hq4) (fun h hr => ?_)
  refine rw_aload_n dX11_write_13 0 rfl rfl ?_
  refine sg_0_0 hr dX11_write_14 fl442 ?_
  refine sg_1_0 hr dX11_write_17 fl167 ?_
  refine rw_iload_n dX11_write_20 1 rfl rfl ?_
  obtain ⟨hi5, hf⟩ := grd hf
  refine sa_2 hr dX11_write_21 (inB_in hi5) ?_
  refine rw_aload_n dX11_write_22 0 rfl rfl ?_
  refine sg_0_8 hr dX11_write_23 fl450 ?_
  obtain ⟨hp7, hf⟩ := grd hf
  obtain ⟨q6, hq6, hf⟩ := bnd hf
  refine kV_V (ad := ad) (As := [.ref (ad 40)]) (st := []) dX11_write_26 calX1_writeTo wm1431 wm1432 wm1433 rfl rfl (rc_Bo hr hp7) (ci := 2) (by decide) rfl rfl (Nat.le_of_ble_eq_true rfl) ⟨⟨by decide, by decide⟩, by decide, by decide⟩ (cmX1_writeTo hr hq6) (fun h hr => ?_)
  refine rw_aload_n dX11_write_29 0 rfl rfl ?_
  refine sg_0_8 hr dX11_write_30 fl450 ?_
  obtain ⟨q8, hq8, hf⟩ := bnd hf
  refine kV_I (ad := ad) (As := []) (st := []) dX11_write_33 calJ4_length_8abf5 wm778 wm779 wm780 rfl rfl (rc_40 hr) (ci := 0) (by decide) rfl rfl (Nat.le_of_ble_eq_true rfl) ⟨⟨by decide, by decide⟩, by decide, by decide⟩ (cmJ4_length_8abf5 hr hq8) (fun h hr => ?_)
  replace hf := Option.some.inj hf
  subst hf
  exact rw_ireturn dX11_write_36 rfl ⟨_, rfl, rfl, hr⟩ (by decide) (by decide)
def jX11_letter_27  (s0 : Int32) (σ : rS) : Option (Int32 × rS) := if narrow .char (.int s0) = .int s0 then some (s0, σ) else none
set_option maxHeartbeats 4000000 in
theorem t_jX11_letter_27 {G : rG} {ad : Nat → Nat} {o : (Int32 × rS)}   (s0 : Int32) (σ : rS) (h : rH) (hr : Rep G ad σ h) (hf : jX11_letter_27  s0 σ = some o) : RW G mX11_letter (rm 5 0 0) (qI G ad o) xN 0 0 27 [] [.int s0] h := by
  unfold jX11_letter_27 at hf
  obtain ⟨hz5, hf⟩ := grd hf
  replace hf := Option.some.inj hf
  subst hf
  exact rw_zreturn dX11_letter_27 rfl hz5 ⟨rfl, hr⟩ (by decide) (by decide)
def jX11_letter_26   (σ : rS) : Option (Int32 × rS) := jX11_letter_27 0 σ
set_option maxHeartbeats 4000000 in
theorem t_jX11_letter_26 {G : rG} {ad : Nat → Nat} {o : (Int32 × rS)}    (σ : rS) (h : rH) (hr : Rep G ad σ h) (hf : jX11_letter_26   σ = some o) : RW G mX11_letter (rm 5 0 0) (qI G ad o) xN 0 0 26 [] [] h := by
  unfold jX11_letter_26 at hf
  refine rw_iconst (v := 0) dX11_letter_26 (by decide) ?_
  exact t_jX11_letter_27 (ad := ad) (G := G)  0 σ _ hr hf
def fX11_letter (a0 : Int32) (σ : rS) : Option (Int32 × rS) := if a0 < 0 then jX11_letter_26 σ else (fJ4_length_8abf5 σ).bind fun q2 => if q2.1 ≤ a0 then jX11_letter_26 q2.2 else (fJ4_charAt_5068e a0 q2.2).bind fun q4 => jX11_letter_27 q4.1 q4.2
set_option maxHeartbeats 4000000 in
theorem cmX11_letter {G : rG} {ad : Nat → Nat} {a0 : Int32} {σ : rS} {h : rH} {o : (Int32 × rS)} (hr : Rep G ad σ h) (hf : fX11_letter a0 σ = some o) : rMT G mX11_letter (rm 5 0 0) [.ref (ad 0), .int a0] h (qI G ad o) xN := by
  unfold fX11_letter at hf
  refine rw_met (by decide +kernel) rfl (Nat.le_of_ble_eq_true rfl) ?_
  show RW G _ _ _ _ 0 0 0 [(0, .ref (ad 0)), (1, .int a0)] [] h
  refine rw_iload_n dX11_letter_0 1 rfl rfl ?_
  refine rw_if_lt (tgt := 26) dX11_letter_1 (by decide) (fun c1 => ?_) (fun c1 => ?_)
  · rw [if_pos c1] at hf
    refine rw_sub [] rfl ?_
    exact t_jX11_letter_26 (ad := ad) (G := G)  σ _ hr hf
  · rw [if_neg c1] at hf
    refine rw_iload_n dX11_letter_4 1 rfl rfl ?_
    refine rw_aload_n dX11_letter_5 0 rfl rfl ?_
    refine sg_0_8 hr dX11_letter_6 fl450 ?_
    obtain ⟨q2, hq2, hf⟩ := bnd hf
    refine kV_I (ad := ad) (As := []) (st := [.int a0]) dX11_letter_9 calJ4_length_8abf5 wm778 wm779 wm780 rfl rfl (rc_40 hr) (ci := 0) (by decide) rfl rfl (Nat.le_of_ble_eq_true rfl) ⟨⟨by decide, by decide⟩, by decide, by decide⟩ (cmJ4_length_8abf5 hr hq2) (fun h hr => ?_)
    refine rw_icmp_ge (tgt := 26) dX11_letter_12 (by decide) (fun c3 => ?_) (fun c3 => ?_)
    · rw [if_pos c3] at hf
      refine rw_sub [] rfl ?_
      exact t_jX11_letter_26 (ad := ad) (G := G)  q2.2 _ hr hf
    · rw [if_neg c3] at hf
      refine rw_aload_n dX11_letter_15 0 rfl rfl ?_
      refine sg_0_8 hr dX11_letter_16 fl450 ?_
      refine rw_iload_n dX11_letter_19 1 rfl rfl ?_
      obtain ⟨q4, hq4, hf⟩ := bnd hf
      refine kV_I (ad := ad) (As := [.int a0]) (st := []) dX11_letter_20 calJ4_charAt_5068e wm785 wm786 wm787 rfl rfl (rc_40 hr) (ci := 0) (by decide) rfl rfl (Nat.le_of_ble_eq_true rfl) ⟨⟨by decide, by decide⟩, by decide, by decide⟩ (cmJ4_charAt_5068e hr hq4) (fun h hr => ?_)
      refine rw_goto (tgt := 27) dX11_letter_23 (by decide) ?_
      refine rw_sub [] rfl ?_
      exact t_jX11_letter_27 (ad := ad) (G := G)  q4.1 q4.2 _ hr hf
def fL_write (a1 : Int32) (σ : rS) : Option (Int32 × rS) := (fX11_write a1 σ).bind fun q1 => match q1.1 with | .error E3 => (if E3 = "java/lang/IndexOutOfBoundsException" then some (1, q1.2) else none) | .ok r2 => if inB 0 1 then vS (uO q1.2 (0 : Int32).toNatClampNeg r2.toInt64) fun σ7 => some (0, σ7) else none
set_option maxHeartbeats 4000000 in
theorem cmL_write {G : rG} {ad : Nat → Nat} {a1 : Int32} {σ : rS} {h : rH} {o : (Int32 × rS)} (hr : Rep G ad σ h) (hf : fL_write a1 σ = some o) : rMT G mL_write (rm 9 63 8810) [.ref (ad 0), .int a1, .ref (ad 42)] h (qI G ad o) xN := by
  unfold fL_write at hf
  refine rw_metW (by decide +kernel) (List.cons_ne_nil _ _) (Nat.le_of_ble_eq_true rfl) ?_
  show RW G _ _ _ _ 0 0 0 [(0, .ref (ad 0)), (1, .int a1), (2, .ref (ad 42))] [] h
  refine rw_aload_n dL_write_0 2 rfl rfl ?_
  refine rw_iconst (v := 0) dL_write_1 (by decide) ?_
  refine rw_aload_n dL_write_2 0 rfl rfl ?_
  refine rw_iload_n dL_write_3 1 rfl rfl ?_
  obtain ⟨q1, hq1, hf⟩ := bnd hf
  refine kV_Ix (ad := ad) (As := [.int a1]) (st := [.int 0, .ref (ad 42)]) dL_write_4 calX11_write wm1166 wm1167 wm1168 rfl rfl (rc_0 hr) (ci := 11) (by decide) rfl rfl (Nat.le_of_ble_eq_true rfl) ⟨⟨by decide, by decide⟩, by decide, by decide⟩ (cmX11_write hr hq1) (fun E h he hr => ?_) (fun r2 h he hr => ?_)
  · rw [he] at hf
    dsimp only at hf
    by_cases c4 : E = "java/lang/IndexOutOfBoundsException"
    · rw [if_pos c4] at hf
      subst c4
      refine rx_catch [] (0, 9, 12, 20) [] rfl rfl (by decide) (fun z hz => nomatch hz) (by decide) (by decide) wm910 (fun y5 => ?_)
      refine rw_astore_n (lv2 := [(3, .ref y5), (0, .ref (ad 0)), (1, .int a1), (2, .ref (ad 42))]) dL_write_12 rfl (by decide) rfl ?_
      refine rw_iconst (v := 1) dL_write_13 (by decide) ?_
      replace hf := Option.some.inj hf
      subst hf
      exact rw_ireturn dL_write_14 rfl ⟨rfl, hr⟩ (by decide) (by decide)
    rw [if_neg c4] at hf
    cases hf
  rw [he] at hf
  dsimp only at hf
  refine rw_i2l dL_write_7 ?_
  obtain ⟨hi6, hf⟩ := grd hf
  refine ss_42 hr dL_write_8 (inB_in hi6) (fun h hr => ?_)
  refine nmS hf hr (fun σ7 hr hf => ?_)
  refine rw_goto (tgt := 15) dL_write_9 (by decide) ?_
  refine rw_iconst (v := 0) dL_write_15 (by decide) ?_
  replace hf := Option.some.inj hf
  subst hf
  exact rw_ireturn dL_write_16 rfl ⟨rfl, hr⟩ (by decide) (by decide)
