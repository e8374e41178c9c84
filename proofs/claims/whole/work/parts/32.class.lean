def fX6_turnOf (a1 : Int32) (a2 : Int32) (a3 : Int32) (σ : rS) : Option (Int32 × rS) := if inB a1 16 then if isBo (80 + 4 * a1.toNatClampNeg) then if inB a2 16 then if isBo (80 + 4 * a2.toNatClampNeg) then if inB a3 16 then if isBo (80 + 4 * a3.toNatClampNeg) then (fX7_turn (80 + 4 * a1.toNatClampNeg + 1) (80 + 4 * a2.toNatClampNeg + 1) (80 + 4 * a3.toNatClampNeg + 1) σ).bind fun q7 => some (q7.1, q7.2) else none else none else none else none else none else none
set_option maxHeartbeats 4000000 in
theorem cmX6_turnOf {G : rG} {ad : Nat → Nat} {a1 : Int32} {a2 : Int32} {a3 : Int32} {σ : rS} {h : rH} {o : (Int32 × rS)} (hr : Rep G ad σ h) (hf : fX6_turnOf a1 a2 a3 σ = some o) : rMT G mX6_turnOf (rm 1 0 0) [.ref (ad 1), .int a1, .int a2, .int a3] h (qI G ad o) xN := by
  unfold fX6_turnOf at hf
  refine rw_met (by decide +kernel) rfl (Nat.le_of_ble_eq_true rfl) ?_
  show RW G _ _ _ _ 0 0 0 [(0, .ref (ad 1)), (1, .int a1), (2, .int a2), (3, .int a3)] [] h
  refine rw_aload_n dX6_turnOf_0 0 rfl rfl ?_
  refine sg_1_0 hr dX6_turnOf_1 fl168 ?_
  refine rw_iload_n dX6_turnOf_4 1 rfl rfl ?_
  obtain ⟨hi1, hf⟩ := grd hf
  refine sa_2 hr dX6_turnOf_5 (inB_in hi1) ?_
  obtain ⟨hp2, hf⟩ := grd hf
  refine sg_Bo_0 hr dX6_turnOf_6 fl137 hp2 ?_
  refine rw_aload_n dX6_turnOf_9 0 rfl rfl ?_
  refine sg_1_0 hr dX6_turnOf_10 fl168 ?_
  refine rw_iload_n dX6_turnOf_13 2 rfl rfl ?_
  obtain ⟨hi3, hf⟩ := grd hf
  refine sa_2 hr dX6_turnOf_14 (inB_in hi3) ?_
  obtain ⟨hp4, hf⟩ := grd hf
  refine sg_Bo_0 hr dX6_turnOf_15 fl137 hp4 ?_
  refine rw_aload_n dX6_turnOf_18 0 rfl rfl ?_
  refine sg_1_0 hr dX6_turnOf_19 fl168 ?_
  refine rw_iload_n dX6_turnOf_22 3 rfl rfl ?_
  obtain ⟨hi5, hf⟩ := grd hf
  refine sa_2 hr dX6_turnOf_23 (inB_in hi5) ?_
  obtain ⟨hp6, hf⟩ := grd hf
  refine sg_Bo_0 hr dX6_turnOf_24 fl137 hp6 ?_
  obtain ⟨q7, hq7, hf⟩ := bnd hf
  refine kS_I (ad := ad) (As := [.ref (ad (80 + 4 * a1.toNatClampNeg + 1)), .ref (ad (80 + 4 * a2.toNatClampNeg + 1)), .ref (ad (80 + 4 * a3.toNatClampNeg + 1))]) (st := []) dX6_turnOf_27 calX7_turn wm620 wm573 rfl rfl (Nat.le_of_ble_eq_true rfl) ⟨⟨by decide, by decide⟩, by decide, by decide⟩ (cmX7_turn hr hq7) (fun h hr => ?_)
  replace hf := Option.some.inj hf
  subst hf
  exact rw_ireturn dX6_turnOf_30 rfl ⟨rfl, hr⟩ (by decide) (by decide)
def jX7_isInTriangle_59  (s0 : Int32) (σ : rS) : Option (Int32 × rS) := if s0 = 0 ∨ s0 = 1 then some (s0, σ) else none
set_option maxHeartbeats 4000000 in
theorem t_jX7_isInTriangle_59 {G : rG} {ad : Nat → Nat} {o : (Int32 × rS)}   (s0 : Int32) (σ : rS) (h : rH) (hr : Rep G ad σ h) (hf : jX7_isInTriangle_59  s0 σ = some o) : RW G mX7_isInTriangle (rm 1 0 0) (qI G ad o) xN 0 0 59 [] [.int s0] h := by
  unfold jX7_isInTriangle_59 at hf
  obtain ⟨hz10, hf⟩ := grd hf
  replace hf := Option.some.inj hf
  subst hf
  exact rw_zreturn dX7_isInTriangle_59 rfl (nar_z hz10) ⟨rfl, hr⟩ (by decide) (by decide)
def jX7_isInTriangle_58   (σ : rS) : Option (Int32 × rS) := jX7_isInTriangle_59 0 σ
set_option maxHeartbeats 4000000 in
theorem t_jX7_isInTriangle_58 {G : rG} {ad : Nat → Nat} {o : (Int32 × rS)}    (σ : rS) (h : rH) (hr : Rep G ad σ h) (hf : jX7_isInTriangle_58   σ = some o) : RW G mX7_isInTriangle (rm 1 0 0) (qI G ad o) xN 0 0 58 [] [] h := by
  unfold jX7_isInTriangle_58 at hf
  refine rw_iconst (v := 0) dX7_isInTriangle_58 (by decide) ?_
  exact t_jX7_isInTriangle_59 (ad := ad) (G := G)  0 σ _ hr hf
def jX7_isInTriangle_54   (σ : rS) : Option (Int32 × rS) := jX7_isInTriangle_59 1 σ
set_option maxHeartbeats 4000000 in
theorem t_jX7_isInTriangle_54 {G : rG} {ad : Nat → Nat} {o : (Int32 × rS)}    (σ : rS) (h : rH) (hr : Rep G ad σ h) (hf : jX7_isInTriangle_54   σ = some o) : RW G mX7_isInTriangle (rm 1 0 0) (qI G ad o) xN 0 0 54 [] [] h := by
  unfold jX7_isInTriangle_54 at hf
  refine rw_iconst (v := 1) dX7_isInTriangle_54 (by decide) ?_
  refine rw_goto (tgt := 59) dX7_isInTriangle_55 (by decide) ?_
  exact t_jX7_isInTriangle_59 (ad := ad) (G := G)  1 σ _ hr hf
def jX7_isInTriangle_39  (v4 : Int32) (v5 : Int32) (v6 : Int32) (σ : rS) : Option (Int32 × rS) := if 0 < v4 then jX7_isInTriangle_58 σ else if 0 < v5 then jX7_isInTriangle_58 σ else if 0 < v6 then jX7_isInTriangle_58 σ else jX7_isInTriangle_54 σ
set_option maxHeartbeats 4000000 in
theorem t_jX7_isInTriangle_39 {G : rG} {ad : Nat → Nat} {o : (Int32 × rS)}   (v4 : Int32) (v5 : Int32) (v6 : Int32) (σ : rS) (h : rH) (hr : Rep G ad σ h) (hf : jX7_isInTriangle_39  v4 v5 v6 σ = some o) : RW G mX7_isInTriangle (rm 1 0 0) (qI G ad o) xN 0 0 39 [(4, .int v4), (5, .int v5), (6, .int v6)] [] h := by
  unfold jX7_isInTriangle_39 at hf
  refine rw_iload dX7_isInTriangle_39 0 rfl ?_
  refine rw_if_gt (tgt := 58) dX7_isInTriangle_41 (by decide) (fun c11 => ?_) (fun c11 => ?_)
  · rw [if_pos c11] at hf
    refine rw_sub [] rfl ?_
    exact t_jX7_isInTriangle_58 (ad := ad) (G := G)  σ _ hr hf
  · rw [if_neg c11] at hf
    refine rw_iload dX7_isInTriangle_44 1 rfl ?_
    refine rw_if_gt (tgt := 58) dX7_isInTriangle_46 (by decide) (fun c12 => ?_) (fun c12 => ?_)
    · rw [if_pos c12] at hf
      refine rw_sub [] rfl ?_
      exact t_jX7_isInTriangle_58 (ad := ad) (G := G)  σ _ hr hf
    · rw [if_neg c12] at hf
      refine rw_iload dX7_isInTriangle_49 2 rfl ?_
      refine rw_if_gt (tgt := 58) dX7_isInTriangle_51 (by decide) (fun c13 => ?_) (fun c13 => ?_)
      · rw [if_pos c13] at hf
        refine rw_sub [] rfl ?_
        exact t_jX7_isInTriangle_58 (ad := ad) (G := G)  σ _ hr hf
      · rw [if_neg c13] at hf
        refine rw_sub [] rfl ?_
        exact t_jX7_isInTriangle_54 (ad := ad) (G := G)  σ _ hr hf
def fX7_isInTriangle (n1 : Nat) (n2 : Nat) (n3 : Nat) (n4 : Nat) (σ : rS) : Option (Int32 × rS) := (fX7_turn n1 n2 n4 σ).bind fun q1 => vI q1.1 fun x2 => (fX7_turn n2 n3 n4 q1.2).bind fun q3 => vI q3.1 fun x4 => (fX7_turn n3 n1 n4 q3.2).bind fun q5 => vI q5.1 fun x6 => if x2 < 0 then jX7_isInTriangle_39 x2 x4 x6 q5.2 else if x4 < 0 then jX7_isInTriangle_39 x2 x4 x6 q5.2 else if 0 ≤ x6 then jX7_isInTriangle_54 q5.2 else jX7_isInTriangle_39 x2 x4 x6 q5.2
set_option maxHeartbeats 4000000 in
theorem cmX7_isInTriangle {G : rG} {ad : Nat → Nat} {n1 : Nat} {n2 : Nat} {n3 : Nat} {n4 : Nat} {σ : rS} {h : rH} {o : (Int32 × rS)} (hr : Rep G ad σ h) (hf : fX7_isInTriangle n1 n2 n3 n4 σ = some o) : rMT G mX7_isInTriangle (rm 1 0 0) [.ref (ad n1), .ref (ad n2), .ref (ad n3), .ref (ad n4)] h (qI G ad o) xN := by
  unfold fX7_isInTriangle at hf
  refine rw_met (by decide +kernel) rfl (Nat.le_of_ble_eq_true rfl) ?_
  show RW G _ _ _ _ 0 0 0 [(0, .ref (ad n1)), (1, .ref (ad n2)), (2, .ref (ad n3)), (3, .ref (ad n4))] [] h
  refine rw_aload_n dX7_isInTriangle_0 0 rfl rfl ?_
  refine rw_aload_n dX7_isInTriangle_1 1 rfl rfl ?_
  refine rw_aload_n dX7_isInTriangle_2 3 rfl rfl ?_
  obtain ⟨q1, hq1, hf⟩ := bnd hf
  refine kS_I (ad := ad) (As := [.ref (ad n1), .ref (ad n2), .ref (ad n4)]) (st := []) dX7_isInTriangle_3 calX7_turn wm572 wm573 rfl rfl (Nat.le_of_ble_eq_true rfl) ⟨⟨by decide, by decide⟩, by decide, by decide⟩ (cmX7_turn hr hq1) (fun h hr => ?_)
  refine nmI hf (fun x2 hf => ?_)
  refine rw_istore (lv2 := [(4, .int x2), (0, .ref (ad n1)), (1, .ref (ad n2)), (2, .ref (ad n3)), (3, .ref (ad n4))]) dX7_isInTriangle_6 (by decide) rfl ?_
  refine rw_aload_n dX7_isInTriangle_8 2 rfl rfl ?_
  refine rw_aload_n dX7_isInTriangle_9 3 rfl rfl ?_
  refine rw_aload_n dX7_isInTriangle_10 4 rfl rfl ?_
  obtain ⟨q3, hq3, hf⟩ := bnd hf
  refine kS_I (ad := ad) (As := [.ref (ad n2), .ref (ad n3), .ref (ad n4)]) (st := []) dX7_isInTriangle_11 calX7_turn wm572 wm573 rfl rfl (Nat.le_of_ble_eq_true rfl) ⟨⟨by decide, by decide⟩, by decide, by decide⟩ (cmX7_turn hr hq3) (fun h hr => ?_)
  refine nmI hf (fun x4 hf => ?_)
  refine rw_istore (lv2 := [(5, .int x4), (4, .int x2), (0, .ref (ad n1)), (1, .ref (ad n2)), (2, .ref (ad n3)), (3, .ref (ad n4))]) dX7_isInTriangle_14 (by decide) rfl ?_
  refine rw_aload_n dX7_isInTriangle_16 4 rfl rfl ?_
  refine rw_aload_n dX7_isInTriangle_17 2 rfl rfl ?_
  refine rw_aload_n dX7_isInTriangle_18 5 rfl rfl ?_
  obtain ⟨q5, hq5, hf⟩ := bnd hf
  refine kS_I (ad := ad) (As := [.ref (ad n3), .ref (ad n1), .ref (ad n4)]) (st := []) dX7_isInTriangle_19 calX7_turn wm572 wm573 rfl rfl (Nat.le_of_ble_eq_true rfl) ⟨⟨by decide, by decide⟩, by decide, by decide⟩ (cmX7_turn hr hq5) (fun h hr => ?_)
  refine nmI hf (fun x6 hf => ?_)
  refine rw_istore (lv2 := [(6, .int x6), (5, .int x4), (4, .int x2), (0, .ref (ad n1)), (1, .ref (ad n2)), (2, .ref (ad n3)), (3, .ref (ad n4))]) dX7_isInTriangle_22 (by decide) rfl ?_
  refine rw_iload dX7_isInTriangle_24 2 rfl ?_
  refine rw_if_lt (tgt := 39) dX7_isInTriangle_26 (by decide) (fun c7 => ?_) (fun c7 => ?_)
  · rw [if_pos c7] at hf
    refine rw_sub [2, 1, 0] rfl ?_
    exact t_jX7_isInTriangle_39 (ad := ad) (G := G)  x2 x4 x6 q5.2 _ hr hf
  · rw [if_neg c7] at hf
    refine rw_iload dX7_isInTriangle_29 1 rfl ?_
    refine rw_if_lt (tgt := 39) dX7_isInTriangle_31 (by decide) (fun c8 => ?_) (fun c8 => ?_)
    · rw [if_pos c8] at hf
      refine rw_sub [2, 1, 0] rfl ?_
      exact t_jX7_isInTriangle_39 (ad := ad) (G := G)  x2 x4 x6 q5.2 _ hr hf
    · rw [if_neg c8] at hf
      refine rw_iload dX7_isInTriangle_34 0 rfl ?_
      refine rw_if_ge (tgt := 54) dX7_isInTriangle_36 (by decide) (fun c9 => ?_) (fun c9 => ?_)
      · rw [if_pos c9] at hf
        refine rw_sub [] rfl ?_
        exact t_jX7_isInTriangle_54 (ad := ad) (G := G)  q5.2 _ hr hf
      · rw [if_neg c9] at hf
        refine rw_sub [2, 1, 0] rfl ?_
        exact t_jX7_isInTriangle_39 (ad := ad) (G := G)  x2 x4 x6 q5.2 _ hr hf
def jX6_isBareTriangle_87 (k15 : Int32 → Int32 → Int32 → Int32 → rS → Option (Int32 × rS)) (v1 : Int32) (v2 : Int32) (v3 : Int32) (v4 : Int32) (σ : rS) : Option (Int32 × rS) := vI (v4 + 1) fun x17 => k15 v1 v2 v3 x17 σ
set_option maxHeartbeats 4000000 in
theorem t_jX6_isBareTriangle_87 {G : rG} {ad : Nat → Nat} {o : (Int32 × rS)} (k15 : Int32 → Int32 → Int32 → Int32 → rS → Option (Int32 × rS)) (hk15 : ∀ (v1 : Int32) (v2 : Int32) (v3 : Int32) (v4 : Int32) (σ : rS) (h : rH), Rep G ad σ h → k15 v1 v2 v3 v4 σ = some o → RW G mX6_isBareTriangle (rm 2 0 0) (qI G ad o) xN 0 0 15 [(0, .ref (ad 1)), (1, .int v1), (2, .int v2), (3, .int v3), (4, .int v4)] [] h) (v1 : Int32) (v2 : Int32) (v3 : Int32) (v4 : Int32) (σ : rS) (h : rH) (hr : Rep G ad σ h) (hf : jX6_isBareTriangle_87 k15 v1 v2 v3 v4 σ = some o) : RW G mX6_isBareTriangle (rm 2 0 0) (qI G ad o) xN 0 0 87 [(0, .ref (ad 1)), (1, .int v1), (2, .int v2), (3, .int v3), (4, .int v4)] [] h := by
  unfold jX6_isBareTriangle_87 at hf
  refine rw_iinc (v := v4 + 1) (lv2 := [(4, .int (v4 + 1)), (0, .ref (ad 1)), (1, .int v1), (2, .int v2), (3, .int v3)]) dX6_isBareTriangle_87 4 rfl rfl (by decide) rfl ?_
  refine nmL hf (fun x17 hf => ?_)
  refine rw_goto (tgt := 15) dX6_isBareTriangle_90 (by decide) ?_
  refine rw_sub [1, 2, 3, 4, 0] rfl ?_
  exact hk15 v1 v2 v3 x17 σ _ hr hf
def lX6_isBareTriangle_15  : Nat → Int32 → Int32 → Int32 → Int32 → rS → Option (Int32 × rS)
  | 0, _, _, _, _, _ => none
  | n + 1, v1, v2, v3, v4, σ => if (σ.1 1 1) ≤ v4 then some (1, σ) else if v4 = v1 then jX6_isBareTriangle_87 (lX6_isBareTriangle_15 n) v1 v2 v3 v4 σ else if v4 = v2 then jX6_isBareTriangle_87 (lX6_isBareTriangle_15 n) v1 v2 v3 v4 σ else if v4 = v3 then jX6_isBareTriangle_87 (lX6_isBareTriangle_15 n) v1 v2 v3 v4 σ else if inB v1 16 then if isBo (80 + 4 * v1.toNatClampNeg) then if inB v2 16 then if isBo (80 + 4 * v2.toNatClampNeg) then if inB v3 16 then if isBo (80 + 4 * v3.toNatClampNeg) then if inB v4 16 then if isBo (80 + 4 * v4.toNatClampNeg) then (fX7_isInTriangle (80 + 4 * v1.toNatClampNeg + 1) (80 + 4 * v2.toNatClampNeg + 1) (80 + 4 * v3.toNatClampNeg + 1) (80 + 4 * v4.toNatClampNeg + 1) σ).bind fun q15 => (if q15.1 = 0 then jX6_isBareTriangle_87 (lX6_isBareTriangle_15 n) v1 v2 v3 v4 q15.2 else some (0, q15.2)) else none else none else none else none else none else none else none else none
set_option maxHeartbeats 4000000 in
theorem t_lX6_isBareTriangle_15 {G : rG} {ad : Nat → Nat} {o : (Int32 × rS)}   : ∀ (n : Nat) (v1 : Int32) (v2 : Int32) (v3 : Int32) (v4 : Int32) (σ : rS) (h : rH), Rep G ad σ h → lX6_isBareTriangle_15  n v1 v2 v3 v4 σ = some o → RW G mX6_isBareTriangle (rm 2 0 0) (qI G ad o) xN 0 0 15 [(0, .ref (ad 1)), (1, .int v1), (2, .int v2), (3, .int v3), (4, .int v4)] [] h := by
  intro n
  induction n with
  | zero =>
    intro v1 v2 v3 v4 σ h hr hf
    rw [lX6_isBareTriangle_15] at hf
    cases hf
  | succ n ih =>
    intro v1 v2 v3 v4 σ h hr hf
    rw [lX6_isBareTriangle_15] at hf
    refine rw_iload dX6_isBareTriangle_15 4 rfl ?_
    refine rw_aload_n dX6_isBareTriangle_17 0 rfl rfl ?_
    refine sg_1_1 hr dX6_isBareTriangle_18 fl173 ?_
    refine rw_icmp_ge (tgt := 93) dX6_isBareTriangle_21 (by decide) (fun c3 => ?_) (fun c3 => ?_)
    · rw [if_pos c3] at hf
      refine rw_iconst (v := 1) dX6_isBareTriangle_93 (by decide) ?_
      replace hf := Option.some.inj hf
      subst hf
      exact rw_zreturn dX6_isBareTriangle_94 rfl (by decide) ⟨rfl, hr⟩ (by decide) (by decide)
    · rw [if_neg c3] at hf
      refine rw_iload dX6_isBareTriangle_24 4 rfl ?_
      refine rw_iload_n dX6_isBareTriangle_26 1 rfl rfl ?_
      refine rw_icmp_eq (tgt := 87) dX6_isBareTriangle_27 (by decide) (fun c4 => ?_) (fun c4 => ?_)
      · rw [if_pos c4] at hf
        exact t_jX6_isBareTriangle_87 (ad := ad) (G := G) (lX6_isBareTriangle_15 n) ih v1 v2 v3 v4 σ _ hr hf
      · rw [if_neg c4] at hf
        refine rw_iload dX6_isBareTriangle_30 4 rfl ?_
        refine rw_iload_n dX6_isBareTriangle_32 2 rfl rfl ?_
        refine rw_icmp_eq (tgt := 87) dX6_isBareTriangle_33 (by decide) (fun c5 => ?_) (fun c5 => ?_)
        · rw [if_pos c5] at hf
          exact t_jX6_isBareTriangle_87 (ad := ad) (G := G) (lX6_isBareTriangle_15 n) ih v1 v2 v3 v4 σ _ hr hf
        · rw [if_neg c5] at hf
          refine rw_iload dX6_isBareTriangle_36 4 rfl ?_
          refine rw_iload_n dX6_isBareTriangle_38 3 rfl rfl ?_
          refine rw_icmp_eq (tgt := 87) dX6_isBareTriangle_39 (by decide) (fun c6 => ?_) (fun c6 => ?_)
          · rw [if_pos c6] at hf
            exact t_jX6_isBareTriangle_87 (ad := ad) (G := G) (lX6_isBareTriangle_15 n) ih v1 v2 v3 v4 σ _ hr hf
          · rw [if_neg c6] at hf
            refine rw_aload_n dX6_isBareTriangle_42 0 rfl rfl ?_
            refine sg_1_0 hr dX6_isBareTriangle_43 fl168 ?_
            refine rw_iload_n dX6_isBareTriangle_46 1 rfl rfl ?_
            obtain ⟨hi7, hf⟩ := grd hf
            refine sa_2 hr dX6_isBareTriangle_47 (inB_in hi7) ?_
            obtain ⟨hp8, hf⟩ := grd hf
            refine sg_Bo_0 hr dX6_isBareTriangle_48 fl137 hp8 ?_
            refine rw_aload_n dX6_isBareTriangle_51 0 rfl rfl ?_
            refine sg_1_0 hr dX6_isBareTriangle_52 fl168 ?_
            refine rw_iload_n dX6_isBareTriangle_55 2 rfl rfl ?_
            obtain ⟨hi9, hf⟩ := grd hf
            refine sa_2 hr dX6_isBareTriangle_56 (inB_in hi9) ?_
            obtain ⟨hp10, hf⟩ := grd hf
            refine sg_Bo_0 hr dX6_isBareTriangle_57 fl137 hp10 ?_
            refine rw_aload_n dX6_isBareTriangle_60 0 rfl rfl ?_
            refine sg_1_0 hr dX6_isBareTriangle_61 fl168 ?_
            refine rw_iload_n dX6_isBareTriangle_64 3 rfl rfl ?_
            obtain ⟨hi11, hf⟩ := grd hf
            refine sa_2 hr dX6_isBareTriangle_65 (inB_in hi11) ?_
            obtain ⟨hp12, hf⟩ := grd hf
            refine sg_Bo_0 hr dX6_isBareTriangle_66 fl137 hp12 ?_
            refine rw_aload_n dX6_isBareTriangle_69 0 rfl rfl ?_
            refine sg_1_0 hr dX6_isBareTriangle_70 fl168 ?_
            refine rw_iload dX6_isBareTriangle_73 4 rfl ?_
            obtain ⟨hi13, hf⟩ := grd hf
            refine sa_2 hr dX6_isBareTriangle_75 (inB_in hi13) ?_
            obtain ⟨hp14, hf⟩ := grd hf
            refine sg_Bo_0 hr dX6_isBareTriangle_76 fl137 hp14 ?_
            obtain ⟨q15, hq15, hf⟩ := bnd hf
            refine kS_I (ad := ad) (As := [.ref (ad (80 + 4 * v1.toNatClampNeg + 1)), .ref (ad (80 + 4 * v2.toNatClampNeg + 1)), .ref (ad (80 + 4 * v3.toNatClampNeg + 1)), .ref (ad (80 + 4 * v4.toNatClampNeg + 1))]) (st := []) dX6_isBareTriangle_79 calX7_isInTriangle wm621 wm622 rfl rfl (Nat.le_of_ble_eq_true rfl) ⟨⟨by decide, by decide⟩, by decide, by decide⟩ (cmX7_isInTriangle hr hq15) (fun h hr => ?_)
            refine rw_if_eq (tgt := 87) dX6_isBareTriangle_82 (by decide) (fun c16 => ?_) (fun c16 => ?_)
            · rw [if_pos c16] at hf
              exact t_jX6_isBareTriangle_87 (ad := ad) (G := G) (lX6_isBareTriangle_15 n) ih v1 v2 v3 v4 q15.2 _ hr hf
            · rw [if_neg c16] at hf
              refine rw_iconst (v := 0) dX6_isBareTriangle_85 (by decide) ?_
              replace hf := Option.some.inj hf
              subst hf
              exact rw_zreturn dX6_isBareTriangle_86 rfl (by decide) ⟨rfl, hr⟩ (by decide) (by decide)
def fX6_isBareTriangle (a1 : Int32) (a2 : Int32) (a3 : Int32) (σ : rS) : Option (Int32 × rS) := (fX6_turnOf a1 a2 a3 σ).bind fun q1 => if q1.1 = 0 then some (0, q1.2) else lX6_isBareTriangle_15 1000 a1 a2 a3 0 q1.2
set_option maxHeartbeats 4000000 in
theorem cmX6_isBareTriangle {G : rG} {ad : Nat → Nat} {a1 : Int32} {a2 : Int32} {a3 : Int32} {σ : rS} {h : rH} {o : (Int32 × rS)} (hr : Rep G ad σ h) (hf : fX6_isBareTriangle a1 a2 a3 σ = some o) : rMT G mX6_isBareTriangle (rm 2 0 0) [.ref (ad 1), .int a1, .int a2, .int a3] h (qI G ad o) xN := by
  unfold fX6_isBareTriangle at hf
  refine rw_met (by decide +kernel) rfl (Nat.le_of_ble_eq_true rfl) ?_
  show RW G _ _ _ _ 0 0 0 [(0, .ref (ad 1)), (1, .int a1), (2, .int a2), (3, .int a3)] [] h
  refine rw_aload_n dX6_isBareTriangle_0 0 rfl rfl ?_
  refine rw_iload_n dX6_isBareTriangle_1 1 rfl rfl ?_
  refine rw_iload_n dX6_isBareTriangle_2 2 rfl rfl ?_
  refine rw_iload_n dX6_isBareTriangle_3 3 rfl rfl ?_
  obtain ⟨q1, hq1, hf⟩ := bnd hf
  refine kS_I (ad := ad) (As := [.ref (ad 1), .int a1, .int a2, .int a3]) (st := []) dX6_isBareTriangle_4 calX6_turnOf wm617 wm618 rfl rfl (Nat.le_of_ble_eq_true rfl) ⟨⟨by decide, by decide⟩, by decide, by decide⟩ (cmX6_turnOf hr hq1) (fun h hr => ?_)
  refine rw_if_ne (tgt := 12) dX6_isBareTriangle_7 (by decide) (fun c2 => ?_) (fun c2 => ?_)
  · rw [if_neg c2] at hf
    refine rw_iconst (v := 0) dX6_isBareTriangle_12 (by decide) ?_
    refine rw_istore (lv2 := [(4, .int 0), (0, .ref (ad 1)), (1, .int a1), (2, .int a2), (3, .int a3)]) dX6_isBareTriangle_13 (by decide) rfl ?_
    refine rw_sub [1, 2, 3, 4, 0] rfl ?_
    exact t_lX6_isBareTriangle_15 (ad := ad) (G := G)  1000 a1 a2 a3 0 q1.2 _ hr hf
  · rw [if_pos c2] at hf
    refine rw_iconst (v := 0) dX6_isBareTriangle_10 (by decide) ?_
    replace hf := Option.some.inj hf
    subst hf
    exact rw_zreturn dX6_isBareTriangle_11 rfl (by decide) ⟨rfl, hr⟩ (by decide) (by decide)
def jX6_takeTrianglesOn_139 (k5 : Int32 → Int32 → Int32 → rS → Option (Unit × rS)) (v2 : Int32) (v3 : Int32) (v4 : Int32) (σ : rS) : Option (Unit × rS) := vI (v4 + 1) fun x21 => k5 v2 v3 x21 σ
set_option maxHeartbeats 4000000 in
theorem t_jX6_takeTrianglesOn_139 {G : rG} {ad : Nat → Nat} {o : (Unit × rS)} (k5 : Int32 → Int32 → Int32 → rS → Option (Unit × rS)) (hk5 : ∀ (v2 : Int32) (v3 : Int32) (v4 : Int32) (σ : rS) (h : rH), Rep G ad σ h → k5 v2 v3 v4 σ = some o → RW G mX6_takeTrianglesOn (rm 3 0 0) (qV G ad o) xN 0 0 5 [(0, .ref (ad 10)), (1, .ref (ad 1)), (2, .int v2), (3, .int v3), (4, .int v4)] [] h) (v2 : Int32) (v3 : Int32) (v4 : Int32) (σ : rS) (h : rH) (hr : Rep G ad σ h) (hf : jX6_takeTrianglesOn_139 k5 v2 v3 v4 σ = some o) : RW G mX6_takeTrianglesOn (rm 3 0 0) (qV G ad o) xN 0 0 139 [(0, .ref (ad 10)), (1, .ref (ad 1)), (2, .int v2), (3, .int v3), (4, .int v4)] [] h := by
  unfold jX6_takeTrianglesOn_139 at hf
  refine rw_iinc (v := v4 + 1) (lv2 := [(4, .int (v4 + 1)), (0, .ref (ad 10)), (1, .ref (ad 1)), (2, .int v2), (3, .int v3)]) dX6_takeTrianglesOn_139 4 rfl rfl (by decide) rfl ?_
  refine nmL hf (fun x21 hf => ?_)
  refine rw_goto (tgt := 5) dX6_takeTrianglesOn_142 (by decide) ?_
  refine rw_sub [1, 2, 3, 4, 0] rfl ?_
  exact hk5 v2 v3 x21 σ _ hr hf
def jX6_takeTrianglesOn_41 (k5 : Int32 → Int32 → Int32 → rS → Option (Unit × rS)) (v2 : Int32) (v3 : Int32) (v4 : Int32) (s0 : Int32) (σ : rS) : Option (Unit × rS) := if s0 = 0 then jX6_takeTrianglesOn_139 k5 v2 v3 v4 σ else if 27 ≤ (σ.1 10 6) then jX6_takeTrianglesOn_139 k5 v2 v3 v4 σ else (fX6_isBareTriangle v2 v3 v4 σ).bind fun q9 => if q9.1 = 0 then jX6_takeTrianglesOn_139 k5 v2 v3 v4 q9.2 else if inB (3 * (q9.2.1 10 6)) 81 then vS (uA q9.2 17 (3 * (q9.2.1 10 6)).toNatClampNeg v2) fun σ12 => if inB ((3 * (σ12.1 10 6)) + 1) 81 then vS (uA σ12 17 ((3 * (σ12.1 10 6)) + 1).toNatClampNeg v3) fun σ14 => if inB ((3 * (σ14.1 10 6)) + 2) 81 then vS (uA σ14 17 ((3 * (σ14.1 10 6)) + 2).toNatClampNeg v4) fun σ16 => (fX6_turnOf v2 v3 v4 σ16).bind fun q17 => if inB (σ16.1 10 6) 27 then vS (uA q17.2 14 (σ16.1 10 6).toNatClampNeg (if 0 ≤ q17.1 then q17.1 else 0 - q17.1)) fun σ19 => vS (uI σ19 10 6 ((σ19.1 10 6) + 1)) fun σ20 => jX6_takeTrianglesOn_139 k5 v2 v3 v4 σ20 else none else none else none else none
set_option maxHeartbeats 4000000 in
theorem t_jX6_takeTrianglesOn_41 {G : rG} {ad : Nat → Nat} {o : (Unit × rS)} (k5 : Int32 → Int32 → Int32 → rS → Option (Unit × rS)) (hk5 : ∀ (v2 : Int32) (v3 : Int32) (v4 : Int32) (σ : rS) (h : rH), Rep G ad σ h → k5 v2 v3 v4 σ = some o → RW G mX6_takeTrianglesOn (rm 3 0 0) (qV G ad o) xN 0 0 5 [(0, .ref (ad 10)), (1, .ref (ad 1)), (2, .int v2), (3, .int v3), (4, .int v4)] [] h) (v2 : Int32) (v3 : Int32) (v4 : Int32) (s0 : Int32) (σ : rS) (h : rH) (hr : Rep G ad σ h) (hf : jX6_takeTrianglesOn_41 k5 v2 v3 v4 s0 σ = some o) : RW G mX6_takeTrianglesOn (rm 3 0 0) (qV G ad o) xN 0 0 41 [(0, .ref (ad 10)), (1, .ref (ad 1)), (2, .int v2), (3, .int v3), (4, .int v4)] [.int s0] h := by
  unfold jX6_takeTrianglesOn_41 at hf
  refine rw_istore (lv2 := [(5, .int s0), (0, .ref (ad 10)), (1, .ref (ad 1)), (2, .int v2), (3, .int v3), (4, .int v4)]) dX6_takeTrianglesOn_41 (by decide) rfl ?_
  refine rw_iload dX6_takeTrianglesOn_43 0 rfl ?_
  refine rw_if_eq (tgt := 139) dX6_takeTrianglesOn_45 (by decide) (fun c7 => ?_) (fun c7 => ?_)
  · rw [if_pos c7] at hf
    refine rw_sub [1, 2, 3, 4, 5] rfl ?_
    exact t_jX6_takeTrianglesOn_139 (ad := ad) (G := G) k5 hk5 v2 v3 v4 σ _ hr hf
  · rw [if_neg c7] at hf
    refine rw_aload_n dX6_takeTrianglesOn_48 1 rfl rfl ?_
    refine sg_10_6 hr dX6_takeTrianglesOn_49 fl247 ?_
    refine rw_bipush (v := 27) dX6_takeTrianglesOn_52 (by decide) ?_
    refine rw_icmp_ge (tgt := 139) dX6_takeTrianglesOn_54 (by decide) (fun c8 => ?_) (fun c8 => ?_)
    · rw [if_pos c8] at hf
      refine rw_sub [1, 2, 3, 4, 5] rfl ?_
      exact t_jX6_takeTrianglesOn_139 (ad := ad) (G := G) k5 hk5 v2 v3 v4 σ _ hr hf
    · rw [if_neg c8] at hf
      refine rw_aload_n dX6_takeTrianglesOn_57 2 rfl rfl ?_
      refine rw_iload_n dX6_takeTrianglesOn_58 3 rfl rfl ?_
      refine rw_iload_n dX6_takeTrianglesOn_59 4 rfl rfl ?_
      refine rw_iload dX6_takeTrianglesOn_60 5 rfl ?_
      obtain ⟨q9, hq9, hf⟩ := bnd hf
      refine kS_I (ad := ad) (As := [.ref (ad 1), .int v2, .int v3, .int v4]) (st := []) dX6_takeTrianglesOn_62 calX6_isBareTriangle wm614 wm615 rfl rfl (Nat.le_of_ble_eq_true rfl) ⟨⟨by decide, by decide⟩, by decide, by decide⟩ (cmX6_isBareTriangle hr hq9) (fun h hr => ?_)
      refine rw_if_eq (tgt := 139) dX6_takeTrianglesOn_65 (by decide) (fun c10 => ?_) (fun c10 => ?_)
      · rw [if_pos c10] at hf
        refine rw_sub [1, 2, 3, 4, 5] rfl ?_
        exact t_jX6_takeTrianglesOn_139 (ad := ad) (G := G) k5 hk5 v2 v3 v4 q9.2 _ hr hf
      · rw [if_neg c10] at hf
        refine rw_aload_n dX6_takeTrianglesOn_68 1 rfl rfl ?_
        refine sg_10_9 hr dX6_takeTrianglesOn_69 fl250 ?_
        refine rw_iconst (v := 3) dX6_takeTrianglesOn_72 (by decide) ?_
        refine rw_aload_n dX6_takeTrianglesOn_73 1 rfl rfl ?_
        refine sg_10_6 hr dX6_takeTrianglesOn_74 fl247 ?_
        refine rw_imul dX6_takeTrianglesOn_77 ?_
        refine rw_iload_n dX6_takeTrianglesOn_78 3 rfl rfl ?_
        obtain ⟨hi11, hf⟩ := grd hf
        refine ss_17 hr dX6_takeTrianglesOn_79 (inB_in hi11) (fun h hr => ?_)
        refine nmS hf hr (fun σ12 hr hf => ?_)
        refine rw_aload_n dX6_takeTrianglesOn_80 1 rfl rfl ?_
        refine sg_10_9 hr dX6_takeTrianglesOn_81 fl250 ?_
        refine rw_iconst (v := 3) dX6_takeTrianglesOn_84 (by decide) ?_
        refine rw_aload_n dX6_takeTrianglesOn_85 1 rfl rfl ?_
        refine sg_10_6 hr dX6_takeTrianglesOn_86 fl247 ?_
        refine rw_imul dX6_takeTrianglesOn_89 ?_
        refine rw_iconst (v := 1) dX6_takeTrianglesOn_90 (by decide) ?_
        refine rw_iadd dX6_takeTrianglesOn_91 ?_
        refine rw_iload_n dX6_takeTrianglesOn_92 4 rfl rfl ?_
        obtain ⟨hi13, hf⟩ := grd hf
        refine ss_17 hr dX6_takeTrianglesOn_93 (inB_in hi13) (fun h hr => ?_)
        refine nmS hf hr (fun σ14 hr hf => ?_)
        refine rw_aload_n dX6_takeTrianglesOn_94 1 rfl rfl ?_
        refine sg_10_9 hr dX6_takeTrianglesOn_95 fl250 ?_
        refine rw_iconst (v := 3) dX6_takeTrianglesOn_98 (by decide) ?_
        refine rw_aload_n dX6_takeTrianglesOn_99 1 rfl rfl ?_
        refine sg_10_6 hr dX6_takeTrianglesOn_100 fl247 ?_
        refine rw_imul dX6_takeTrianglesOn_103 ?_
        refine rw_iconst (v := 2) dX6_takeTrianglesOn_104 (by decide) ?_
        refine rw_iadd dX6_takeTrianglesOn_105 ?_
        refine rw_iload dX6_takeTrianglesOn_106 5 rfl ?_
        obtain ⟨hi15, hf⟩ := grd hf
        refine ss_17 hr dX6_takeTrianglesOn_108 (inB_in hi15) (fun h hr => ?_)
        refine nmS hf hr (fun σ16 hr hf => ?_)
        refine rw_aload_n dX6_takeTrianglesOn_109 1 rfl rfl ?_
        refine sg_10_3 hr dX6_takeTrianglesOn_110 fl237 ?_
        refine rw_aload_n dX6_takeTrianglesOn_113 1 rfl rfl ?_
        refine sg_10_6 hr dX6_takeTrianglesOn_114 fl247 ?_
        refine rw_aload_n dX6_takeTrianglesOn_117 2 rfl rfl ?_
        refine rw_iload_n dX6_takeTrianglesOn_118 3 rfl rfl ?_
        refine rw_iload_n dX6_takeTrianglesOn_119 4 rfl rfl ?_
        refine rw_iload dX6_takeTrianglesOn_120 5 rfl ?_
        obtain ⟨q17, hq17, hf⟩ := bnd hf
        refine kS_I (ad := ad) (As := [.ref (ad 1), .int v2, .int v3, .int v4]) (st := [.int (σ16.1 10 6), .ref (ad 14)]) dX6_takeTrianglesOn_122 calX6_turnOf wm617 wm618 rfl rfl (Nat.le_of_ble_eq_true rfl) ⟨⟨by decide, by decide⟩, by decide, by decide⟩ (cmX6_turnOf hr hq17) (fun h hr => ?_)
        refine rw_mabs dX6_takeTrianglesOn_125 wm624 (by decide) (Nat.le_of_ble_eq_true rfl) (by decide) (by decide) ?_
        obtain ⟨hi18, hf⟩ := grd hf
        refine ss_14 hr dX6_takeTrianglesOn_128 (inB_in hi18) (fun h hr => ?_)
        refine nmS hf hr (fun σ19 hr hf => ?_)
        refine rw_aload_n dX6_takeTrianglesOn_129 1 rfl rfl ?_
        refine rw_dup dX6_takeTrianglesOn_130 rfl ?_
        refine sg_10_6 hr dX6_takeTrianglesOn_131 fl247 ?_
        refine rw_iconst (v := 1) dX6_takeTrianglesOn_134 (by decide) ?_
        refine rw_iadd dX6_takeTrianglesOn_135 ?_
        refine sp_10_6 hr dX6_takeTrianglesOn_136 fl247 (fun h hr => ?_)
        refine nmS hf hr (fun σ20 hr hf => ?_)
        refine rw_sub [1, 2, 3, 4, 5] rfl ?_
        exact t_jX6_takeTrianglesOn_139 (ad := ad) (G := G) k5 hk5 v2 v3 v4 σ20 _ hr hf
def jX6_takeTrianglesOn_40 (k5 : Int32 → Int32 → Int32 → rS → Option (Unit × rS)) (v2 : Int32) (v3 : Int32) (v4 : Int32) (σ : rS) : Option (Unit × rS) := jX6_takeTrianglesOn_41 k5 v2 v3 v4 0 σ
set_option maxHeartbeats 4000000 in
theorem t_jX6_takeTrianglesOn_40 {G : rG} {ad : Nat → Nat} {o : (Unit × rS)} (k5 : Int32 → Int32 → Int32 → rS → Option (Unit × rS)) (hk5 : ∀ (v2 : Int32) (v3 : Int32) (v4 : Int32) (σ : rS) (h : rH), Rep G ad σ h → k5 v2 v3 v4 σ = some o → RW G mX6_takeTrianglesOn (rm 3 0 0) (qV G ad o) xN 0 0 5 [(0, .ref (ad 10)), (1, .ref (ad 1)), (2, .int v2), (3, .int v3), (4, .int v4)] [] h) (v2 : Int32) (v3 : Int32) (v4 : Int32) (σ : rS) (h : rH) (hr : Rep G ad σ h) (hf : jX6_takeTrianglesOn_40 k5 v2 v3 v4 σ = some o) : RW G mX6_takeTrianglesOn (rm 3 0 0) (qV G ad o) xN 0 0 40 [(0, .ref (ad 10)), (1, .ref (ad 1)), (2, .int v2), (3, .int v3), (4, .int v4)] [] h := by
  unfold jX6_takeTrianglesOn_40 at hf
  refine rw_iconst (v := 0) dX6_takeTrianglesOn_40 (by decide) ?_
  exact t_jX6_takeTrianglesOn_41 (ad := ad) (G := G) k5 hk5 v2 v3 v4 0 σ _ hr hf
def lX6_takeTrianglesOn_5  : Nat → Int32 → Int32 → Int32 → rS → Option (Unit × rS)
  | 0, _, _, _, _ => none
  | n + 1, v2, v3, v4, σ => if (σ.1 1 1) ≤ v4 then some ((), σ) else (fX6_joining v2 v4 σ).bind fun q3 => if q3.1 = ((-1)) then jX6_takeTrianglesOn_40 (lX6_takeTrianglesOn_5 n) v2 v3 v4 q3.2 else (fX6_joining v3 v4 q3.2).bind fun q5 => if q5.1 = ((-1)) then jX6_takeTrianglesOn_40 (lX6_takeTrianglesOn_5 n) v2 v3 v4 q5.2 else jX6_takeTrianglesOn_41 (lX6_takeTrianglesOn_5 n) v2 v3 v4 1 q5.2
set_option maxHeartbeats 4000000 in
theorem t_lX6_takeTrianglesOn_5 {G : rG} {ad : Nat → Nat} {o : (Unit × rS)}   : ∀ (n : Nat) (v2 : Int32) (v3 : Int32) (v4 : Int32) (σ : rS) (h : rH), Rep G ad σ h → lX6_takeTrianglesOn_5  n v2 v3 v4 σ = some o → RW G mX6_takeTrianglesOn (rm 3 0 0) (qV G ad o) xN 0 0 5 [(0, .ref (ad 10)), (1, .ref (ad 1)), (2, .int v2), (3, .int v3), (4, .int v4)] [] h := by
  intro n
  induction n with
  | zero =>
    intro v2 v3 v4 σ h hr hf
    rw [lX6_takeTrianglesOn_5] at hf
    cases hf
  | succ n ih =>
    intro v2 v3 v4 σ h hr hf
    rw [lX6_takeTrianglesOn_5] at hf
    refine rw_iload dX6_takeTrianglesOn_5 4 rfl ?_
    refine rw_aload_n dX6_takeTrianglesOn_7 1 rfl rfl ?_
    refine sg_1_1 hr dX6_takeTrianglesOn_8 fl173 ?_
    refine rw_icmp_ge (tgt := 145) dX6_takeTrianglesOn_11 (by decide) (fun c2 => ?_) (fun c2 => ?_)
    · rw [if_pos c2] at hf
      replace hf := Option.some.inj hf
      subst hf
      exact rw_return dX6_takeTrianglesOn_145 rfl ⟨rfl, hr⟩ (by decide) (by decide)
    · rw [if_neg c2] at hf
      refine rw_aload_n dX6_takeTrianglesOn_14 0 rfl rfl ?_
      refine rw_iload_n dX6_takeTrianglesOn_15 2 rfl rfl ?_
      refine rw_iload dX6_takeTrianglesOn_16 4 rfl ?_
      obtain ⟨q3, hq3, hf⟩ := bnd hf
      refine kV_I (ad := ad) (As := [.int v2, .int v4]) (st := []) dX6_takeTrianglesOn_18 calX6_joining wm606 wm607 wm608 rfl rfl (rc_10 hr) (ci := 6) (by decide) rfl rfl (Nat.le_of_ble_eq_true rfl) ⟨⟨by decide, by decide⟩, by decide, by decide⟩ (cmX6_joining hr hq3) (fun h hr => ?_)
      refine rw_iconst (v := (-1)) dX6_takeTrianglesOn_21 (by decide) ?_
      refine rw_icmp_eq (tgt := 40) dX6_takeTrianglesOn_22 (by decide) (fun c4 => ?_) (fun c4 => ?_)
      · rw [if_pos c4] at hf
        exact t_jX6_takeTrianglesOn_40 (ad := ad) (G := G) (lX6_takeTrianglesOn_5 n) ih v2 v3 v4 q3.2 _ hr hf
      · rw [if_neg c4] at hf
        refine rw_aload_n dX6_takeTrianglesOn_25 0 rfl rfl ?_
        refine rw_iload_n dX6_takeTrianglesOn_26 3 rfl rfl ?_
        refine rw_iload dX6_takeTrianglesOn_27 4 rfl ?_
        obtain ⟨q5, hq5, hf⟩ := bnd hf
        refine kV_I (ad := ad) (As := [.int v3, .int v4]) (st := []) dX6_takeTrianglesOn_29 calX6_joining wm606 wm607 wm608 rfl rfl (rc_10 hr) (ci := 6) (by decide) rfl rfl (Nat.le_of_ble_eq_true rfl) ⟨⟨by decide, by decide⟩, by decide, by decide⟩ (cmX6_joining hr hq5) (fun h hr => ?_)
        refine rw_iconst (v := (-1)) dX6_takeTrianglesOn_32 (by decide) ?_
        refine rw_icmp_eq (tgt := 40) dX6_takeTrianglesOn_33 (by decide) (fun c6 => ?_) (fun c6 => ?_)
        · rw [if_pos c6] at hf
          exact t_jX6_takeTrianglesOn_40 (ad := ad) (G := G) (lX6_takeTrianglesOn_5 n) ih v2 v3 v4 q5.2 _ hr hf
        · rw [if_neg c6] at hf
          refine rw_iconst (v := 1) dX6_takeTrianglesOn_36 (by decide) ?_
          refine rw_goto (tgt := 41) dX6_takeTrianglesOn_37 (by decide) ?_
          exact t_jX6_takeTrianglesOn_41 (ad := ad) (G := G) (lX6_takeTrianglesOn_5 n) ih v2 v3 v4 1 q5.2 _ hr hf
def fX6_takeTrianglesOn (a1 : Int32) (a2 : Int32) (σ : rS) : Option (Unit × rS) := vI (a2 + 1) fun x1 => lX6_takeTrianglesOn_5 1000 a1 a2 x1 σ
set_option maxHeartbeats 4000000 in
theorem cmX6_takeTrianglesOn {G : rG} {ad : Nat → Nat} {a1 : Int32} {a2 : Int32} {σ : rS} {h : rH} {o : (Unit × rS)} (hr : Rep G ad σ h) (hf : fX6_takeTrianglesOn a1 a2 σ = some o) : rMT G mX6_takeTrianglesOn (rm 3 0 0) [.ref (ad 10), .ref (ad 1), .int a1, .int a2] h (qV G ad o) xN := by
  unfold fX6_takeTrianglesOn at hf
  refine rw_met (by decide +kernel) rfl (Nat.le_of_ble_eq_true rfl) ?_
  show RW G _ _ _ _ 0 0 0 [(0, .ref (ad 10)), (1, .ref (ad 1)), (2, .int a1), (3, .int a2)] [] h
  refine rw_iload_n dX6_takeTrianglesOn_0 3 rfl rfl ?_
  refine rw_iconst (v := 1) dX6_takeTrianglesOn_1 (by decide) ?_
  refine rw_iadd dX6_takeTrianglesOn_2 ?_
  refine nmI hf (fun x1 hf => ?_)
  refine rw_istore (lv2 := [(4, .int x1), (0, .ref (ad 10)), (1, .ref (ad 1)), (2, .int a1), (3, .int a2)]) dX6_takeTrianglesOn_3 (by decide) rfl ?_
  refine rw_sub [1, 2, 3, 4, 0] rfl ?_
  exact t_lX6_takeTrianglesOn_5 (ad := ad) (G := G)  1000 a1 a2 x1 σ _ hr hf
def jX6_takeTriangles_44 (k7 : Int32 → rS → Option (Unit × rS)) (k19 : Int32 → Int32 → rS → Option (Unit × rS)) (v2 : Int32) (v3 : Int32) (σ : rS) : Option (Unit × rS) := vI (v3 + 1) fun x9 => k19 v2 x9 σ
set_option maxHeartbeats 4000000 in
theorem t_jX6_takeTriangles_44 {G : rG} {ad : Nat → Nat} {o : (Unit × rS)} (k7 : Int32 → rS → Option (Unit × rS)) (k19 : Int32 → Int32 → rS → Option (Unit × rS)) (hk7 : ∀ (v2 : Int32) (σ : rS) (h : rH), Rep G ad σ h → k7 v2 σ = some o → RW G mX6_takeTriangles (rm 4 0 0) (qV G ad o) xN 0 0 7 [(0, .ref (ad 10)), (1, .ref (ad 1)), (2, .int v2)] [] h) (hk19 : ∀ (v2 : Int32) (v3 : Int32) (σ : rS) (h : rH), Rep G ad σ h → k19 v2 v3 σ = some o → RW G mX6_takeTriangles (rm 4 0 0) (qV G ad o) xN 0 0 19 [(0, .ref (ad 10)), (1, .ref (ad 1)), (2, .int v2), (3, .int v3)] [] h) (v2 : Int32) (v3 : Int32) (σ : rS) (h : rH) (hr : Rep G ad σ h) (hf : jX6_takeTriangles_44 k7 k19 v2 v3 σ = some o) : RW G mX6_takeTriangles (rm 4 0 0) (qV G ad o) xN 0 0 44 [(0, .ref (ad 10)), (1, .ref (ad 1)), (2, .int v2), (3, .int v3)] [] h := by
  unfold jX6_takeTriangles_44 at hf
  refine rw_iinc (v := v3 + 1) (lv2 := [(3, .int (v3 + 1)), (0, .ref (ad 10)), (1, .ref (ad 1)), (2, .int v2)]) dX6_takeTriangles_44 3 rfl rfl (by decide) rfl ?_
  refine nmL hf (fun x9 hf => ?_)
  refine rw_goto (tgt := 19) dX6_takeTriangles_47 (by decide) ?_
  refine rw_sub [1, 2, 3, 0] rfl ?_
  exact hk19 v2 x9 σ _ hr hf
def lX6_takeTriangles_19 (k7 : Int32 → rS → Option (Unit × rS)) : Nat → Int32 → Int32 → rS → Option (Unit × rS)
  | 0, _, _, _ => none
  | n + 1, v2, v3, σ => if (σ.1 1 1) ≤ v3 then vI (v2 + 1) fun x5 => k7 x5 σ else (fX6_joining v2 v3 σ).bind fun q6 => if q6.1 = ((-1)) then jX6_takeTriangles_44 k7 (lX6_takeTriangles_19 k7 n) v2 v3 q6.2 else (fX6_takeTrianglesOn v2 v3 q6.2).bind fun q8 => jX6_takeTriangles_44 k7 (lX6_takeTriangles_19 k7 n) v2 v3 q8.2
set_option maxHeartbeats 4000000 in
theorem t_lX6_takeTriangles_19 {G : rG} {ad : Nat → Nat} {o : (Unit × rS)} (k7 : Int32 → rS → Option (Unit × rS)) (hk7 : ∀ (v2 : Int32) (σ : rS) (h : rH), Rep G ad σ h → k7 v2 σ = some o → RW G mX6_takeTriangles (rm 4 0 0) (qV G ad o) xN 0 0 7 [(0, .ref (ad 10)), (1, .ref (ad 1)), (2, .int v2)] [] h) : ∀ (n : Nat) (v2 : Int32) (v3 : Int32) (σ : rS) (h : rH), Rep G ad σ h → lX6_takeTriangles_19 k7 n v2 v3 σ = some o → RW G mX6_takeTriangles (rm 4 0 0) (qV G ad o) xN 0 0 19 [(0, .ref (ad 10)), (1, .ref (ad 1)), (2, .int v2), (3, .int v3)] [] h := by
  intro n
  induction n with
  | zero =>
    intro v2 v3 σ h hr hf
    rw [lX6_takeTriangles_19] at hf
    cases hf
  | succ n ih =>
    intro v2 v3 σ h hr hf
    rw [lX6_takeTriangles_19] at hf
    refine rw_iload_n dX6_takeTriangles_19 3 rfl rfl ?_
    refine rw_aload_n dX6_takeTriangles_20 1 rfl rfl ?_
    refine sg_1_1 hr dX6_takeTriangles_21 fl173 ?_
    refine rw_icmp_ge (tgt := 50) dX6_takeTriangles_24 (by decide) (fun c4 => ?_) (fun c4 => ?_)
    · rw [if_pos c4] at hf
      refine rw_iinc (v := v2 + 1) (lv2 := [(2, .int (v2 + 1)), (0, .ref (ad 10)), (1, .ref (ad 1)), (3, .int v3)]) dX6_takeTriangles_50 2 rfl rfl (by decide) rfl ?_
      refine nmL hf (fun x5 hf => ?_)
      refine rw_goto (tgt := 7) dX6_takeTriangles_53 (by decide) ?_
      refine rw_sub [1, 2, 0] rfl ?_
      exact hk7 x5 σ _ hr hf
    · rw [if_neg c4] at hf
      refine rw_aload_n dX6_takeTriangles_27 0 rfl rfl ?_
      refine rw_iload_n dX6_takeTriangles_28 2 rfl rfl ?_
      refine rw_iload_n dX6_takeTriangles_29 3 rfl rfl ?_
      obtain ⟨q6, hq6, hf⟩ := bnd hf
      refine kV_I (ad := ad) (As := [.int v2, .int v3]) (st := []) dX6_takeTriangles_30 calX6_joining wm606 wm607 wm608 rfl rfl (rc_10 hr) (ci := 6) (by decide) rfl rfl (Nat.le_of_ble_eq_true rfl) ⟨⟨by decide, by decide⟩, by decide, by decide⟩ (cmX6_joining hr hq6) (fun h hr => ?_)
      refine rw_iconst (v := (-1)) dX6_takeTriangles_33 (by decide) ?_
      refine rw_icmp_eq (tgt := 44) dX6_takeTriangles_34 (by decide) (fun c7 => ?_) (fun c7 => ?_)
      · rw [if_pos c7] at hf
        exact t_jX6_takeTriangles_44 (ad := ad) (G := G) k7 (lX6_takeTriangles_19 k7 n) hk7 ih v2 v3 q6.2 _ hr hf
      · rw [if_neg c7] at hf
        refine rw_aload_n dX6_takeTriangles_37 0 rfl rfl ?_
        refine rw_aload_n dX6_takeTriangles_38 1 rfl rfl ?_
        refine rw_iload_n dX6_takeTriangles_39 2 rfl rfl ?_
        refine rw_iload_n dX6_takeTriangles_40 3 rfl rfl ?_
        obtain ⟨q8, hq8, hf⟩ := bnd hf
        refine kV_V (ad := ad) (As := [.ref (ad 1), .int v2, .int v3]) (st := []) dX6_takeTriangles_41 calX6_takeTrianglesOn wm610 wm612 wm7 rfl rfl (rc_10 hr) (ci := 6) (by decide) rfl rfl (Nat.le_of_ble_eq_true rfl) ⟨⟨by decide, by decide⟩, by decide, by decide⟩ (cmX6_takeTrianglesOn hr hq8) (fun h hr => ?_)
        exact t_jX6_takeTriangles_44 (ad := ad) (G := G) k7 (lX6_takeTriangles_19 k7 n) hk7 ih v2 v3 q8.2 _ hr hf
def lX6_takeTriangles_7  : Nat → Int32 → rS → Option (Unit × rS)
  | 0, _, _ => none
  | n + 1, v2, σ => if (σ.1 1 1) ≤ v2 then some ((), σ) else vI (v2 + 1) fun x3 => lX6_takeTriangles_19 (lX6_takeTriangles_7 n) 1000 v2 x3 σ
set_option maxHeartbeats 4000000 in
theorem t_lX6_takeTriangles_7 {G : rG} {ad : Nat → Nat} {o : (Unit × rS)}   : ∀ (n : Nat) (v2 : Int32) (σ : rS) (h : rH), Rep G ad σ h → lX6_takeTriangles_7  n v2 σ = some o → RW G mX6_takeTriangles (rm 4 0 0) (qV G ad o) xN 0 0 7 [(0, .ref (ad 10)), (1, .ref (ad 1)), (2, .int v2)] [] h := by
  intro n
  induction n with
  | zero =>
    intro v2 σ h hr hf
    rw [lX6_takeTriangles_7] at hf
    cases hf
  | succ n ih =>
    intro v2 σ h hr hf
    rw [lX6_takeTriangles_7] at hf
    refine rw_iload_n dX6_takeTriangles_7 2 rfl rfl ?_
    refine rw_aload_n dX6_takeTriangles_8 1 rfl rfl ?_
    refine sg_1_1 hr dX6_takeTriangles_9 fl173 ?_
    refine rw_icmp_ge (tgt := 56) dX6_takeTriangles_12 (by decide) (fun c2 => ?_) (fun c2 => ?_)
    · rw [if_pos c2] at hf
      replace hf := Option.some.inj hf
      subst hf
      exact rw_return dX6_takeTriangles_56 rfl ⟨rfl, hr⟩ (by decide) (by decide)
    · rw [if_neg c2] at hf
      refine rw_iload_n dX6_takeTriangles_15 2 rfl rfl ?_
      refine rw_iconst (v := 1) dX6_takeTriangles_16 (by decide) ?_
      refine rw_iadd dX6_takeTriangles_17 ?_
      refine nmI hf (fun x3 hf => ?_)
      refine rw_istore_n (lv2 := [(3, .int x3), (0, .ref (ad 10)), (1, .ref (ad 1)), (2, .int v2)]) dX6_takeTriangles_18 rfl (by decide) rfl ?_
      refine rw_sub [1, 2, 3, 0] rfl ?_
      exact t_lX6_takeTriangles_19 (ad := ad) (G := G) (lX6_takeTriangles_7 n) ih 1000 v2 x3 σ _ hr hf
def fX6_takeTriangles  (σ : rS) : Option (Unit × rS) := vS (uI σ 10 6 0) fun σ1 => lX6_takeTriangles_7 1000 0 σ1
set_option maxHeartbeats 4000000 in
theorem cmX6_takeTriangles {G : rG} {ad : Nat → Nat}  {σ : rS} {h : rH} {o : (Unit × rS)} (hr : Rep G ad σ h) (hf : fX6_takeTriangles  σ = some o) : rMT G mX6_takeTriangles (rm 4 0 0) [.ref (ad 10), .ref (ad 1)] h (qV G ad o) xN := by
  unfold fX6_takeTriangles at hf
  refine rw_met (by decide +kernel) rfl (Nat.le_of_ble_eq_true rfl) ?_
  show RW G _ _ _ _ 0 0 0 [(0, .ref (ad 10)), (1, .ref (ad 1))] [] h
  refine rw_aload_n dX6_takeTriangles_0 0 rfl rfl ?_
  refine rw_iconst (v := 0) dX6_takeTriangles_1 (by decide) ?_
  refine sp_10_6 hr dX6_takeTriangles_2 fl247 (fun h hr => ?_)
  refine nmS hf hr (fun σ1 hr hf => ?_)
  refine rw_iconst (v := 0) dX6_takeTriangles_5 (by decide) ?_
  refine rw_istore_n (lv2 := [(2, .int 0), (0, .ref (ad 10)), (1, .ref (ad 1))]) dX6_takeTriangles_6 rfl (by decide) rfl ?_
  refine rw_sub [1, 2, 0] rfl ?_
  exact t_lX6_takeTriangles_7 (ad := ad) (G := G)  1000 0 σ1 _ hr hf
def fX6_lay  (σ : rS) : Option (Unit × rS) := (fX6_orderPairs σ).bind fun q1 => (fX6_takeEdges q1.2).bind fun q2 => (fX6_takeTriangles q2.2).bind fun q3 => some ((), q3.2)
set_option maxHeartbeats 4000000 in
theorem cmX6_lay {G : rG} {ad : Nat → Nat}  {σ : rS} {h : rH} {o : (Unit × rS)} (hr : Rep G ad σ h) (hf : fX6_lay  σ = some o) : rMT G mX6_lay (rm 5 0 0) [.ref (ad 10), .ref (ad 1), .ref (ad 3)] h (qV G ad o) xN := by
  unfold fX6_lay at hf
  refine rw_met (by decide +kernel) rfl (Nat.le_of_ble_eq_true rfl) ?_
  show RW G _ _ _ _ 0 0 0 [(0, .ref (ad 10)), (1, .ref (ad 1)), (2, .ref (ad 3))] [] h
  refine rw_aload_n dX6_lay_0 0 rfl rfl ?_
  refine rw_aload_n dX6_lay_1 1 rfl rfl ?_
  obtain ⟨q1, hq1, hf⟩ := bnd hf
  refine kV_V (ad := ad) (As := [.ref (ad 1)]) (st := []) dX6_lay_2 calX6_orderPairs wm547 wm549 wm1 rfl rfl (rc_10 hr) (ci := 6) (by decide) rfl rfl (Nat.le_of_ble_eq_true rfl) ⟨⟨by decide, by decide⟩, by decide, by decide⟩ (cmX6_orderPairs hr hq1) (fun h hr => ?_)
  refine rw_aload_n dX6_lay_5 0 rfl rfl ?_
  refine rw_aload_n dX6_lay_6 1 rfl rfl ?_
  refine rw_aload_n dX6_lay_7 2 rfl rfl ?_
  obtain ⟨q2, hq2, hf⟩ := bnd hf
  refine kV_V (ad := ad) (As := [.ref (ad 1), .ref (ad 3)]) (st := []) dX6_lay_8 calX6_takeEdges wm559 wm561 wm3 rfl rfl (rc_10 hr) (ci := 6) (by decide) rfl rfl (Nat.le_of_ble_eq_true rfl) ⟨⟨by decide, by decide⟩, by decide, by decide⟩ (cmX6_takeEdges hr hq2) (fun h hr => ?_)
  refine rw_aload_n dX6_lay_11 0 rfl rfl ?_
  refine rw_aload_n dX6_lay_12 1 rfl rfl ?_
  obtain ⟨q3, hq3, hf⟩ := bnd hf
  refine kV_V (ad := ad) (As := [.ref (ad 1)]) (st := []) dX6_lay_13 calX6_takeTriangles wm602 wm604 wm6 rfl rfl (rc_10 hr) (ci := 6) (by decide) rfl rfl (Nat.le_of_ble_eq_true rfl) ⟨⟨by decide, by decide⟩, by decide, by decide⟩ (cmX6_takeTriangles hr hq3) (fun h hr => ?_)
  replace hf := Option.some.inj hf
  subst hf
  exact rw_return dX6_lay_16 rfl ⟨rfl, hr⟩ (by decide) (by decide)
def jX8_add_27   (σ : rS) : Option (Int32 × rS) := some (0, σ)
set_option maxHeartbeats 4000000 in
theorem t_jX8_add_27 {G : rG} {ad : Nat → Nat} {o : (Int32 × rS)}    (σ : rS) (h : rH) (hr : Rep G ad σ h) (hf : jX8_add_27   σ = some o) : RW G mX8_add (rm 1 0 0) (qI G ad o) xN 0 0 27 [] [] h := by
  unfold jX8_add_27 at hf
  refine rw_iconst (v := 0) dX8_add_27 (by decide) ?_
  replace hf := Option.some.inj hf
  subst hf
  exact rw_zreturn dX8_add_28 rfl (by decide) ⟨rfl, hr⟩ (by decide) (by decide)
def jX8_add_17  (v1 : Int32) (σ : rS) : Option (Int32 × rS) := if (σ.1 38 1) < 600 then if inB (σ.1 38 1) 600 then vS (uA σ 39 (σ.1 38 1).toNatClampNeg (vp_nar .char ((v1.toUInt32 % 65536).toInt32))) fun σ6 => vS (uI σ6 38 1 ((σ6.1 38 1) + 1)) fun σ7 => some (1, σ7) else none else jX8_add_27 σ
set_option maxHeartbeats 4000000 in
theorem t_jX8_add_17 {G : rG} {ad : Nat → Nat} {o : (Int32 × rS)}   (v1 : Int32) (σ : rS) (h : rH) (hr : Rep G ad σ h) (hf : jX8_add_17  v1 σ = some o) : RW G mX8_add (rm 1 0 0) (qI G ad o) xN 0 0 17 [(0, .ref (ad 38)), (1, .int v1)] [] h := by
  unfold jX8_add_17 at hf
  refine rw_aload_n dX8_add_17 0 rfl rfl ?_
  refine sg_38_1 hr dX8_add_18 fl390 ?_
  refine rw_sipush (v := 600) dX8_add_21 (by decide) ?_
  refine rw_icmp_lt (tgt := 29) dX8_add_24 (by decide) (fun c4 => ?_) (fun c4 => ?_)
  · rw [if_pos c4] at hf
    refine rw_aload_n dX8_add_29 0 rfl rfl ?_
    refine sg_38_0 hr dX8_add_30 fl389 ?_
    refine rw_aload_n dX8_add_33 0 rfl rfl ?_
    refine sg_38_1 hr dX8_add_34 fl390 ?_
    refine rw_iload_n dX8_add_37 1 rfl rfl ?_
    refine rw_i2c dX8_add_38 ?_
    obtain ⟨hi5, hf⟩ := grd hf
    refine ss_39 hr dX8_add_39 (inB_in hi5) (fun h hr => ?_)
    refine nmS hf hr (fun σ6 hr hf => ?_)
    refine rw_aload_n dX8_add_40 0 rfl rfl ?_
    refine rw_dup dX8_add_41 rfl ?_
    refine sg_38_1 hr dX8_add_42 fl390 ?_
    refine rw_iconst (v := 1) dX8_add_45 (by decide) ?_
    refine rw_iadd dX8_add_46 ?_
    refine sp_38_1 hr dX8_add_47 fl390 (fun h hr => ?_)
    refine nmS hf hr (fun σ7 hr hf => ?_)
    refine rw_iconst (v := 1) dX8_add_50 (by decide) ?_
    replace hf := Option.some.inj hf
    subst hf
    exact rw_zreturn dX8_add_51 rfl (by decide) ⟨rfl, hr⟩ (by decide) (by decide)
  · rw [if_neg c4] at hf
    refine rw_sub [] rfl ?_
    exact t_jX8_add_27 (ad := ad) (G := G)  σ _ hr hf
def fX8_add (a0 : Int32) (σ : rS) : Option (Int32 × rS) := (fX11_isFrom 32 126 a0 σ).bind fun q1 => if q1.1 = 0 then if a0 = 10 then jX8_add_17 a0 q1.2 else jX8_add_27 q1.2 else jX8_add_17 a0 q1.2
set_option maxHeartbeats 4000000 in
theorem cmX8_add {G : rG} {ad : Nat → Nat} {a0 : Int32} {σ : rS} {h : rH} {o : (Int32 × rS)} (hr : Rep G ad σ h) (hf : fX8_add a0 σ = some o) : rMT G mX8_add (rm 1 0 0) [.ref (ad 38), .int a0] h (qI G ad o) xN := by
  unfold fX8_add at hf
  refine rw_met (by decide +kernel) rfl (Nat.le_of_ble_eq_true rfl) ?_
  show RW G _ _ _ _ 0 0 0 [(0, .ref (ad 38)), (1, .int a0)] [] h
  refine rw_bipush (v := 32) dX8_add_0 (by decide) ?_
  refine rw_bipush (v := 126) dX8_add_2 (by decide) ?_
  refine rw_iload_n dX8_add_4 1 rfl rfl ?_
  obtain ⟨q1, hq1, hf⟩ := bnd hf
  refine kSN_I (ad := ad) (As := [.int 32, .int 126, .int a0]) (st := []) dX8_add_5 calX11_isFrom wm698 wm490 rfl rfl (Nat.le_of_ble_eq_true rfl) ⟨⟨by decide, by decide⟩, by decide, by decide⟩ (cmX11_isFrom hr hq1) (fun h hr => ?_)
  refine rw_if_ne (tgt := 17) dX8_add_8 (by decide) (fun c2 => ?_) (fun c2 => ?_)
  · rw [if_neg c2] at hf
    exact t_jX8_add_17 (ad := ad) (G := G)  a0 q1.2 _ hr hf
  · rw [if_pos c2] at hf
    refine rw_iload_n dX8_add_11 1 rfl rfl ?_
    refine rw_bipush (v := 10) dX8_add_12 (by decide) ?_
    refine rw_icmp_ne (tgt := 27) dX8_add_14 (by decide) (fun c3 => ?_) (fun c3 => ?_)
    · rw [if_neg c3] at hf
      refine rw_sub [] rfl ?_
      exact t_jX8_add_27 (ad := ad) (G := G)  q1.2 _ hr hf
    · rw [if_pos c3] at hf
      exact t_jX8_add_17 (ad := ad) (G := G)  a0 q1.2 _ hr hf
def fX8_clear  (σ : rS) : Option (Unit × rS) := vS (uI σ 38 1 0) fun σ1 => some ((), σ1)
set_option maxHeartbeats 4000000 in
theorem cmX8_clear {G : rG} {ad : Nat → Nat}  {σ : rS} {h : rH} {o : (Unit × rS)} (hr : Rep G ad σ h) (hf : fX8_clear  σ = some o) : rMT G mX8_clear (rm 0 0 0) [.ref (ad 38)] h (qV G ad o) xN := by
  unfold fX8_clear at hf
  refine rw_met (by decide +kernel) rfl (Nat.le_of_ble_eq_true rfl) ?_
  show RW G _ _ _ _ 0 0 0 [(0, .ref (ad 38))] [] h
  refine rw_aload_n dX8_clear_0 0 rfl rfl ?_
  refine rw_iconst (v := 0) dX8_clear_1 (by decide) ?_
  refine sp_38_1 hr dX8_clear_2 fl390 (fun h hr => ?_)
  refine nmS hf hr (fun σ1 hr hf => ?_)
  replace hf := Option.some.inj hf
  subst hf
  exact rw_return dX8_clear_5 rfl ⟨rfl, hr⟩ (by decide) (by decide)
def jX8_isGap_17  (s0 : Int32) (σ : rS) : Option (Int32 × rS) := if s0 = 0 ∨ s0 = 1 then some (s0, σ) else none
set_option maxHeartbeats 4000000 in
theorem t_jX8_isGap_17 {G : rG} {ad : Nat → Nat} {o : (Int32 × rS)}   (s0 : Int32) (σ : rS) (h : rH) (hr : Rep G ad σ h) (hf : jX8_isGap_17  s0 σ = some o) : RW G mX8_isGap (rm 0 0 0) (qI G ad o) xN 0 0 17 [] [.int s0] h := by
  unfold jX8_isGap_17 at hf
  obtain ⟨hz3, hf⟩ := grd hf
  replace hf := Option.some.inj hf
  subst hf
  exact rw_zreturn dX8_isGap_17 rfl (nar_z hz3) ⟨rfl, hr⟩ (by decide) (by decide)
def jX8_isGap_12   (σ : rS) : Option (Int32 × rS) := jX8_isGap_17 1 σ
set_option maxHeartbeats 4000000 in
theorem t_jX8_isGap_12 {G : rG} {ad : Nat → Nat} {o : (Int32 × rS)}    (σ : rS) (h : rH) (hr : Rep G ad σ h) (hf : jX8_isGap_12   σ = some o) : RW G mX8_isGap (rm 0 0 0) (qI G ad o) xN 0 0 12 [] [] h := by
  unfold jX8_isGap_12 at hf
  refine rw_iconst (v := 1) dX8_isGap_12 (by decide) ?_
  refine rw_goto (tgt := 17) dX8_isGap_13 (by decide) ?_
  exact t_jX8_isGap_17 (ad := ad) (G := G)  1 σ _ hr hf
def fX8_isGap (a0 : Int32) (σ : rS) : Option (Int32 × rS) := if a0 = 32 then jX8_isGap_12 σ else if a0 = 10 then jX8_isGap_12 σ else jX8_isGap_17 0 σ
set_option maxHeartbeats 4000000 in
theorem cmX8_isGap {G : rG} {ad : Nat → Nat} {a0 : Int32} {σ : rS} {h : rH} {o : (Int32 × rS)} (hr : Rep G ad σ h) (hf : fX8_isGap a0 σ = some o) : rMT G mX8_isGap (rm 0 0 0) [.int a0] h (qI G ad o) xN := by
  unfold fX8_isGap at hf
  refine rw_met (by decide +kernel) rfl (Nat.le_of_ble_eq_true rfl) ?_
  show RW G _ _ _ _ 0 0 0 [(0, .int a0)] [] h
  refine rw_iload_n dX8_isGap_0 0 rfl rfl ?_
  refine rw_bipush (v := 32) dX8_isGap_1 (by decide) ?_
  refine rw_icmp_eq (tgt := 12) dX8_isGap_3 (by decide) (fun c1 => ?_) (fun c1 => ?_)
  · rw [if_pos c1] at hf
    refine rw_sub [] rfl ?_
    exact t_jX8_isGap_12 (ad := ad) (G := G)  σ _ hr hf
  · rw [if_neg c1] at hf
    refine rw_iload_n dX8_isGap_6 0 rfl rfl ?_
    refine rw_bipush (v := 10) dX8_isGap_7 (by decide) ?_
    refine rw_icmp_ne (tgt := 16) dX8_isGap_9 (by decide) (fun c2 => ?_) (fun c2 => ?_)
    · rw [if_neg c2] at hf
      refine rw_iconst (v := 0) dX8_isGap_16 (by decide) ?_
      refine rw_sub [] rfl ?_
      exact t_jX8_isGap_17 (ad := ad) (G := G)  0 σ _ hr hf
    · rw [if_pos c2] at hf
      refine rw_sub [] rfl ?_
      exact t_jX8_isGap_12 (ad := ad) (G := G)  σ _ hr hf
def jX8_moveToNextWord_94   (σ : rS) : Option (Unit × rS) := vS (uI σ 38 4 ((σ.1 38 4) + 1)) fun σ13 => some ((), σ13)
set_option maxHeartbeats 4000000 in
theorem t_jX8_moveToNextWord_94 {G : rG} {ad : Nat → Nat} {o : (Unit × rS)}    (σ : rS) (h : rH) (hr : Rep G ad σ h) (hf : jX8_moveToNextWord_94   σ = some o) : RW G mX8_moveToNextWord (rm 1 0 0) (qV G ad o) xN 0 0 94 [(0, .ref (ad 38))] [] h := by
  unfold jX8_moveToNextWord_94 at hf
  refine rw_aload_n dX8_moveToNextWord_94 0 rfl rfl ?_
  refine rw_dup dX8_moveToNextWord_95 rfl ?_
  refine sg_38_4 hr dX8_moveToNextWord_96 fl393 ?_
  refine rw_iconst (v := 1) dX8_moveToNextWord_99 (by decide) ?_
  refine rw_iadd dX8_moveToNextWord_100 ?_
  refine sp_38_4 hr dX8_moveToNextWord_101 fl393 (fun h hr => ?_)
  refine nmS hf hr (fun σ13 hr hf => ?_)
  replace hf := Option.some.inj hf
  subst hf
  exact rw_return dX8_moveToNextWord_104 rfl ⟨rfl, hr⟩ (by decide) (by decide)
def lX8_moveToNextWord_55  : Nat → rS → Option (Unit × rS)
  | 0, _ => none
  | n + 1, σ => if (σ.1 38 1) ≤ (σ.1 38 3) then jX8_moveToNextWord_94 σ else if inB (σ.1 38 3) 600 then (fX8_isGap (σ.2.2.1 39 (σ.1 38 3).toNatClampNeg) σ).bind fun q10 => (if q10.1 = 0 then vS (uI q10.2 38 3 ((q10.2.1 38 3) + 1)) fun σ12 => (lX8_moveToNextWord_55 n)  σ12 else jX8_moveToNextWord_94 q10.2) else none
set_option maxHeartbeats 4000000 in
theorem t_lX8_moveToNextWord_55 {G : rG} {ad : Nat → Nat} {o : (Unit × rS)}   : ∀ (n : Nat)  (σ : rS) (h : rH), Rep G ad σ h → lX8_moveToNextWord_55  n  σ = some o → RW G mX8_moveToNextWord (rm 1 0 0) (qV G ad o) xN 0 0 55 [(0, .ref (ad 38))] [] h := by
  intro n
  induction n with
  | zero =>
    intro  σ h hr hf
    rw [lX8_moveToNextWord_55] at hf
    cases hf
  | succ n ih =>
    intro  σ h hr hf
    rw [lX8_moveToNextWord_55] at hf
    refine rw_aload_n dX8_moveToNextWord_55 0 rfl rfl ?_
    refine sg_38_3 hr dX8_moveToNextWord_56 fl392 ?_
    refine rw_aload_n dX8_moveToNextWord_59 0 rfl rfl ?_
    refine sg_38_1 hr dX8_moveToNextWord_60 fl390 ?_
    refine rw_icmp_ge (tgt := 94) dX8_moveToNextWord_63 (by decide) (fun c8 => ?_) (fun c8 => ?_)
    · rw [if_pos c8] at hf
      exact t_jX8_moveToNextWord_94 (ad := ad) (G := G)  σ _ hr hf
    · rw [if_neg c8] at hf
      refine rw_aload_n dX8_moveToNextWord_66 0 rfl rfl ?_
      refine sg_38_0 hr dX8_moveToNextWord_67 fl389 ?_
      refine rw_aload_n dX8_moveToNextWord_70 0 rfl rfl ?_
      refine sg_38_3 hr dX8_moveToNextWord_71 fl392 ?_
      obtain ⟨hi9, hf⟩ := grd hf
      refine sl_39 hr dX8_moveToNextWord_74 (inB_in hi9) ?_
      obtain ⟨q10, hq10, hf⟩ := bnd hf
      refine kS_I (ad := ad) (As := [.int (σ.2.2.1 39 (σ.1 38 3).toNatClampNeg)]) (st := []) dX8_moveToNextWord_75 calX8_isGap wm711 wm712 rfl rfl (Nat.le_of_ble_eq_true rfl) ⟨⟨by decide, by decide⟩, by decide, by decide⟩ (cmX8_isGap hr hq10) (fun h hr => ?_)
      refine rw_if_ne (tgt := 94) dX8_moveToNextWord_78 (by decide) (fun c11 => ?_) (fun c11 => ?_)
      · rw [if_neg c11] at hf
        exact t_jX8_moveToNextWord_94 (ad := ad) (G := G)  q10.2 _ hr hf
      · rw [if_pos c11] at hf
        refine rw_aload_n dX8_moveToNextWord_81 0 rfl rfl ?_
        refine rw_dup dX8_moveToNextWord_82 rfl ?_
        refine sg_38_3 hr dX8_moveToNextWord_83 fl392 ?_
        refine rw_iconst (v := 1) dX8_moveToNextWord_86 (by decide) ?_
        refine rw_iadd dX8_moveToNextWord_87 ?_
        refine sp_38_3 hr dX8_moveToNextWord_88 fl392 (fun h hr => ?_)
        refine nmS hf hr (fun σ12 hr hf => ?_)
        refine rw_goto (tgt := 55) dX8_moveToNextWord_91 (by decide) ?_
        exact ih  σ12 _ hr hf
def jX8_moveToNextWord_47   (σ : rS) : Option (Unit × rS) := vS (uI σ 38 3 (σ.1 38 2)) fun σ7 => lX8_moveToNextWord_55 1000 σ7
set_option maxHeartbeats 4000000 in
theorem t_jX8_moveToNextWord_47 {G : rG} {ad : Nat → Nat} {o : (Unit × rS)}    (σ : rS) (h : rH) (hr : Rep G ad σ h) (hf : jX8_moveToNextWord_47   σ = some o) : RW G mX8_moveToNextWord (rm 1 0 0) (qV G ad o) xN 0 0 47 [(0, .ref (ad 38))] [] h := by
  unfold jX8_moveToNextWord_47 at hf
  refine rw_aload_n dX8_moveToNextWord_47 0 rfl rfl ?_
  refine rw_aload_n dX8_moveToNextWord_48 0 rfl rfl ?_
  refine sg_38_2 hr dX8_moveToNextWord_49 fl391 ?_
  refine sp_38_3 hr dX8_moveToNextWord_52 fl392 (fun h hr => ?_)
  refine nmS hf hr (fun σ7 hr hf => ?_)
  exact t_lX8_moveToNextWord_55 (ad := ad) (G := G)  1000 σ7 _ hr hf
def lX8_moveToNextWord_8  : Nat → rS → Option (Unit × rS)
  | 0, _ => none
  | n + 1, σ => if (σ.1 38 1) ≤ (σ.1 38 2) then jX8_moveToNextWord_47 σ else if inB (σ.1 38 2) 600 then (fX8_isGap (σ.2.2.1 39 (σ.1 38 2).toNatClampNeg) σ).bind fun q4 => (if q4.1 = 0 then jX8_moveToNextWord_47 q4.2 else vS (uI q4.2 38 2 ((q4.2.1 38 2) + 1)) fun σ6 => (lX8_moveToNextWord_8 n)  σ6) else none
set_option maxHeartbeats 4000000 in
theorem t_lX8_moveToNextWord_8 {G : rG} {ad : Nat → Nat} {o : (Unit × rS)}   : ∀ (n : Nat)  (σ : rS) (h : rH), Rep G ad σ h → lX8_moveToNextWord_8  n  σ = some o → RW G mX8_moveToNextWord (rm 1 0 0) (qV G ad o) xN 0 0 8 [(0, .ref (ad 38))] [] h := by
  intro n
  induction n with
  | zero =>
    intro  σ h hr hf
    rw [lX8_moveToNextWord_8] at hf
    cases hf
  | succ n ih =>
    intro  σ h hr hf
    rw [lX8_moveToNextWord_8] at hf
    refine rw_aload_n dX8_moveToNextWord_8 0 rfl rfl ?_
    refine sg_38_2 hr dX8_moveToNextWord_9 fl391 ?_
    refine rw_aload_n dX8_moveToNextWord_12 0 rfl rfl ?_
    refine sg_38_1 hr dX8_moveToNextWord_13 fl390 ?_
    refine rw_icmp_ge (tgt := 47) dX8_moveToNextWord_16 (by decide) (fun c2 => ?_) (fun c2 => ?_)
    · rw [if_pos c2] at hf
      exact t_jX8_moveToNextWord_47 (ad := ad) (G := G)  σ _ hr hf
    · rw [if_neg c2] at hf
      refine rw_aload_n dX8_moveToNextWord_19 0 rfl rfl ?_
      refine sg_38_0 hr dX8_moveToNextWord_20 fl389 ?_
      refine rw_aload_n dX8_moveToNextWord_23 0 rfl rfl ?_
      refine sg_38_2 hr dX8_moveToNextWord_24 fl391 ?_
      obtain ⟨hi3, hf⟩ := grd hf
      refine sl_39 hr dX8_moveToNextWord_27 (inB_in hi3) ?_
      obtain ⟨q4, hq4, hf⟩ := bnd hf
      refine kS_I (ad := ad) (As := [.int (σ.2.2.1 39 (σ.1 38 2).toNatClampNeg)]) (st := []) dX8_moveToNextWord_28 calX8_isGap wm711 wm712 rfl rfl (Nat.le_of_ble_eq_true rfl) ⟨⟨by decide, by decide⟩, by decide, by decide⟩ (cmX8_isGap hr hq4) (fun h hr => ?_)
      refine rw_if_eq (tgt := 47) dX8_moveToNextWord_31 (by decide) (fun c5 => ?_) (fun c5 => ?_)
      · rw [if_pos c5] at hf
        exact t_jX8_moveToNextWord_47 (ad := ad) (G := G)  q4.2 _ hr hf
      · rw [if_neg c5] at hf
        refine rw_aload_n dX8_moveToNextWord_34 0 rfl rfl ?_
        refine rw_dup dX8_moveToNextWord_35 rfl ?_
        refine sg_38_2 hr dX8_moveToNextWord_36 fl391 ?_
        refine rw_iconst (v := 1) dX8_moveToNextWord_39 (by decide) ?_
        refine rw_iadd dX8_moveToNextWord_40 ?_
        refine sp_38_2 hr dX8_moveToNextWord_41 fl391 (fun h hr => ?_)
        refine nmS hf hr (fun σ6 hr hf => ?_)
        refine rw_goto (tgt := 8) dX8_moveToNextWord_44 (by decide) ?_
        exact ih  σ6 _ hr hf
def fX8_moveToNextWord  (σ : rS) : Option (Unit × rS) := vS (uI σ 38 2 (σ.1 38 3)) fun σ1 => lX8_moveToNextWord_8 1000 σ1
set_option maxHeartbeats 4000000 in
theorem cmX8_moveToNextWord {G : rG} {ad : Nat → Nat}  {σ : rS} {h : rH} {o : (Unit × rS)} (hr : Rep G ad σ h) (hf : fX8_moveToNextWord  σ = some o) : rMT G mX8_moveToNextWord (rm 1 0 0) [.ref (ad 38)] h (qV G ad o) xN := by
  unfold fX8_moveToNextWord at hf
  refine rw_met (by decide +kernel) rfl (Nat.le_of_ble_eq_true rfl) ?_
  show RW G _ _ _ _ 0 0 0 [(0, .ref (ad 38))] [] h
  refine rw_aload_n dX8_moveToNextWord_0 0 rfl rfl ?_
  refine rw_aload_n dX8_moveToNextWord_1 0 rfl rfl ?_
  refine sg_38_3 hr dX8_moveToNextWord_2 fl392 ?_
  refine sp_38_2 hr dX8_moveToNextWord_5 fl391 (fun h hr => ?_)
  refine nmS hf hr (fun σ1 hr hf => ?_)
  exact t_lX8_moveToNextWord_8 (ad := ad) (G := G)  1000 σ1 _ hr hf
def jX8_isLetter_31  (s0 : Int32) (σ : rS) : Option (Int32 × rS) := if s0 = 0 ∨ s0 = 1 then some (s0, σ) else none
set_option maxHeartbeats 4000000 in
theorem t_jX8_isLetter_31 {G : rG} {ad : Nat → Nat} {o : (Int32 × rS)}   (s0 : Int32) (σ : rS) (h : rH) (hr : Rep G ad σ h) (hf : jX8_isLetter_31  s0 σ = some o) : RW G mX8_isLetter (rm 0 0 0) (qI G ad o) xN 0 0 31 [] [.int s0] h := by
  unfold jX8_isLetter_31 at hf
  obtain ⟨hz4, hf⟩ := grd hf
  replace hf := Option.some.inj hf
  subst hf
  exact rw_zreturn dX8_isLetter_31 rfl (nar_z hz4) ⟨rfl, hr⟩ (by decide) (by decide)
def jX8_isLetter_30   (σ : rS) : Option (Int32 × rS) := jX8_isLetter_31 0 σ
set_option maxHeartbeats 4000000 in
theorem t_jX8_isLetter_30 {G : rG} {ad : Nat → Nat} {o : (Int32 × rS)}    (σ : rS) (h : rH) (hr : Rep G ad σ h) (hf : jX8_isLetter_30   σ = some o) : RW G mX8_isLetter (rm 0 0 0) (qI G ad o) xN 0 0 30 [] [] h := by
  unfold jX8_isLetter_30 at hf
  refine rw_iconst (v := 0) dX8_isLetter_30 (by decide) ?_
  exact t_jX8_isLetter_31 (ad := ad) (G := G)  0 σ _ hr hf
def fX8_isLetter (a0 : Int32) (σ : rS) : Option (Int32 × rS) := if ((σ.1 38 3) - (σ.1 38 2)) = 1 then if inB (σ.1 38 2) 600 then (if (σ.2.2.1 39 (σ.1 38 2).toNatClampNeg) = a0 then jX8_isLetter_31 1 σ else jX8_isLetter_30 σ) else none else jX8_isLetter_30 σ
set_option maxHeartbeats 4000000 in
theorem cmX8_isLetter {G : rG} {ad : Nat → Nat} {a0 : Int32} {σ : rS} {h : rH} {o : (Int32 × rS)} (hr : Rep G ad σ h) (hf : fX8_isLetter a0 σ = some o) : rMT G mX8_isLetter (rm 0 0 0) [.ref (ad 38), .int a0] h (qI G ad o) xN := by
  unfold fX8_isLetter at hf
  refine rw_met (by decide +kernel) rfl (Nat.le_of_ble_eq_true rfl) ?_
  show RW G _ _ _ _ 0 0 0 [(0, .ref (ad 38)), (1, .int a0)] [] h
  refine rw_aload_n dX8_isLetter_0 0 rfl rfl ?_
  refine sg_38_3 hr dX8_isLetter_1 fl392 ?_
  refine rw_aload_n dX8_isLetter_4 0 rfl rfl ?_
  refine sg_38_2 hr dX8_isLetter_5 fl391 ?_
  refine rw_isub dX8_isLetter_8 ?_
  refine rw_iconst (v := 1) dX8_isLetter_9 (by decide) ?_
  refine rw_icmp_ne (tgt := 30) dX8_isLetter_10 (by decide) (fun c1 => ?_) (fun c1 => ?_)
  · rw [if_neg c1] at hf
    refine rw_sub [] rfl ?_
    exact t_jX8_isLetter_30 (ad := ad) (G := G)  σ _ hr hf
  · rw [if_pos c1] at hf
    refine rw_aload_n dX8_isLetter_13 0 rfl rfl ?_
    refine sg_38_0 hr dX8_isLetter_14 fl389 ?_
    refine rw_aload_n dX8_isLetter_17 0 rfl rfl ?_
    refine sg_38_2 hr dX8_isLetter_18 fl391 ?_
    obtain ⟨hi2, hf⟩ := grd hf
    refine sl_39 hr dX8_isLetter_21 (inB_in hi2) ?_
    refine rw_iload_n dX8_isLetter_22 1 rfl rfl ?_
    refine rw_icmp_ne (tgt := 30) dX8_isLetter_23 (by decide) (fun c3 => ?_) (fun c3 => ?_)
    · rw [if_neg c3] at hf
      refine rw_sub [] rfl ?_
      exact t_jX8_isLetter_30 (ad := ad) (G := G)  σ _ hr hf
    · rw [if_pos c3] at hf
      refine rw_iconst (v := 1) dX8_isLetter_26 (by decide) ?_
      refine rw_goto (tgt := 31) dX8_isLetter_27 (by decide) ?_
      refine rw_sub [] rfl ?_
      exact t_jX8_isLetter_31 (ad := ad) (G := G)  1 σ _ hr hf
def jX8_isNumber_140  (v1 : Int32) (v2 : Int32) (s0 : Int32) (σ : rS) : Option (Int32 × rS) := vS (uI σ 38 5 s0) fun σ15 => (fX11_isFrom v1 v2 (σ15.1 38 5) σ15).bind fun q16 => if q16.1 = 0 ∨ q16.1 = 1 then some (q16.1, q16.2) else none
set_option maxHeartbeats 4000000 in
theorem t_jX8_isNumber_140 {G : rG} {ad : Nat → Nat} {o : (Int32 × rS)}   (v1 : Int32) (v2 : Int32) (s0 : Int32) (σ : rS) (h : rH) (hr : Rep G ad σ h) (hf : jX8_isNumber_140  v1 v2 s0 σ = some o) : RW G mX8_isNumber (rm 1 0 0) (qI G ad o) xN 0 0 140 [(0, .ref (ad 38)), (1, .int v1), (2, .int v2)] [.int s0, .ref (ad 38)] h := by
  unfold jX8_isNumber_140 at hf
  refine sp_38_5 hr dX8_isNumber_140 fl394 (fun h hr => ?_)
  refine nmS hf hr (fun σ15 hr hf => ?_)
  refine rw_iload_n dX8_isNumber_143 1 rfl rfl ?_
  refine rw_iload_n dX8_isNumber_144 2 rfl rfl ?_
  refine rw_aload_n dX8_isNumber_145 0 rfl rfl ?_
  refine sg_38_5 hr dX8_isNumber_146 fl394 ?_
  obtain ⟨q16, hq16, hf⟩ := bnd hf
  refine kSN_I (ad := ad) (As := [.int v1, .int v2, .int (σ15.1 38 5)]) (st := []) dX8_isNumber_149 calX11_isFrom wm698 wm490 rfl rfl (Nat.le_of_ble_eq_true rfl) ⟨⟨by decide, by decide⟩, by decide, by decide⟩ (cmX11_isFrom hr hq16) (fun h hr => ?_)
  obtain ⟨hz17, hf⟩ := grd hf
  replace hf := Option.some.inj hf
  subst hf
  exact rw_zreturn dX8_isNumber_152 rfl (nar_z hz17) ⟨rfl, hr⟩ (by decide) (by decide)
def lX8_isNumber_75  : Nat → Int32 → Int32 → Int32 → Int32 → Int32 → rS → Option (Int32 × rS)
  | 0, _, _, _, _, _, _ => none
  | n + 1, v1, v2, v3, v5, v6, σ => if (σ.1 38 3) ≤ v6 then if v3 = 0 then jX8_isNumber_140 v1 v2 v5 σ else jX8_isNumber_140 v1 v2 (-v5) σ else if inB v6 600 then (fX11_isFrom 48 57 (σ.2.2.1 39 v6.toNatClampNeg) σ).bind fun q10 => (if q10.1 = 0 then some (0, q10.2) else if inB v6 600 then vI ((v5 * 10) + ((q10.2.2.2.1 39 v6.toNatClampNeg) - 48)) fun x13 => vI (v6 + 1) fun x14 => (lX8_isNumber_75 n) v1 v2 v3 x13 x14 q10.2 else none) else none
set_option maxHeartbeats 4000000 in
theorem t_lX8_isNumber_75 {G : rG} {ad : Nat → Nat} {o : (Int32 × rS)}   : ∀ (n : Nat) (v1 : Int32) (v2 : Int32) (v3 : Int32) (v5 : Int32) (v6 : Int32) (σ : rS) (h : rH), Rep G ad σ h → lX8_isNumber_75  n v1 v2 v3 v5 v6 σ = some o → RW G mX8_isNumber (rm 1 0 0) (qI G ad o) xN 0 0 75 [(0, .ref (ad 38)), (1, .int v1), (2, .int v2), (3, .int v3), (5, .int v5), (6, .int v6)] [] h := by
  intro n
  induction n with
  | zero =>
    intro v1 v2 v3 v5 v6 σ h hr hf
    rw [lX8_isNumber_75] at hf
    cases hf
  | succ n ih =>
    intro v1 v2 v3 v5 v6 σ h hr hf
    rw [lX8_isNumber_75] at hf
    refine rw_iload dX8_isNumber_75 5 rfl ?_
    refine rw_aload_n dX8_isNumber_77 0 rfl rfl ?_
    refine sg_38_3 hr dX8_isNumber_78 fl392 ?_
    refine rw_icmp_ge (tgt := 127) dX8_isNumber_81 (by decide) (fun c7 => ?_) (fun c7 => ?_)
    · rw [if_pos c7] at hf
      refine rw_aload_n dX8_isNumber_127 0 rfl rfl ?_
      refine rw_iload_n dX8_isNumber_128 3 rfl rfl ?_
      refine rw_if_eq (tgt := 138) dX8_isNumber_129 (by decide) (fun c8 => ?_) (fun c8 => ?_)
      · rw [if_pos c8] at hf
        refine rw_iload dX8_isNumber_138 4 rfl ?_
        refine rw_sub [0, 1, 2] rfl ?_
        exact t_jX8_isNumber_140 (ad := ad) (G := G)  v1 v2 v5 σ _ hr hf
      · rw [if_neg c8] at hf
        refine rw_iload dX8_isNumber_132 4 rfl ?_
        refine rw_ineg dX8_isNumber_134 ?_
        refine rw_goto (tgt := 140) dX8_isNumber_135 (by decide) ?_
        refine rw_sub [0, 1, 2] rfl ?_
        exact t_jX8_isNumber_140 (ad := ad) (G := G)  v1 v2 (-v5) σ _ hr hf
    · rw [if_neg c7] at hf
      refine rw_bipush (v := 48) dX8_isNumber_84 (by decide) ?_
      refine rw_bipush (v := 57) dX8_isNumber_86 (by decide) ?_
      refine rw_aload_n dX8_isNumber_88 0 rfl rfl ?_
      refine sg_38_0 hr dX8_isNumber_89 fl389 ?_
      refine rw_iload dX8_isNumber_92 5 rfl ?_
      obtain ⟨hi9, hf⟩ := grd hf
      refine sl_39 hr dX8_isNumber_94 (inB_in hi9) ?_
      obtain ⟨q10, hq10, hf⟩ := bnd hf
      refine kSN_I (ad := ad) (As := [.int 48, .int 57, .int (σ.2.2.1 39 v6.toNatClampNeg)]) (st := []) dX8_isNumber_95 calX11_isFrom wm698 wm490 rfl rfl (Nat.le_of_ble_eq_true rfl) ⟨⟨by decide, by decide⟩, by decide, by decide⟩ (cmX11_isFrom hr hq10) (fun h hr => ?_)
      refine rw_if_ne (tgt := 103) dX8_isNumber_98 (by decide) (fun c11 => ?_) (fun c11 => ?_)
      · rw [if_neg c11] at hf
        refine rw_iload dX8_isNumber_103 4 rfl ?_
        refine rw_bipush (v := 10) dX8_isNumber_105 (by decide) ?_
        refine rw_imul dX8_isNumber_107 ?_
        refine rw_aload_n dX8_isNumber_108 0 rfl rfl ?_
        refine sg_38_0 hr dX8_isNumber_109 fl389 ?_
        refine rw_iload dX8_isNumber_112 5 rfl ?_
        obtain ⟨hi12, hf⟩ := grd hf
        refine sl_39 hr dX8_isNumber_114 (inB_in hi12) ?_
        refine rw_bipush (v := 48) dX8_isNumber_115 (by decide) ?_
        refine rw_isub dX8_isNumber_117 ?_
        refine rw_iadd dX8_isNumber_118 ?_
        refine nmI hf (fun x13 hf => ?_)
        refine rw_istore (lv2 := [(5, .int x13), (0, .ref (ad 38)), (1, .int v1), (2, .int v2), (3, .int v3), (6, .int v6)]) dX8_isNumber_119 (by decide) rfl ?_
        refine rw_iinc (v := v6 + 1) (lv2 := [(6, .int (v6 + 1)), (5, .int x13), (0, .ref (ad 38)), (1, .int v1), (2, .int v2), (3, .int v3)]) dX8_isNumber_121 5 rfl rfl (by decide) rfl ?_
        refine nmL hf (fun x14 hf => ?_)
        refine rw_goto (tgt := 75) dX8_isNumber_124 (by decide) ?_
        refine rw_sub [2, 3, 4, 5, 1, 0] rfl ?_
        exact ih v1 v2 v3 x13 x14 q10.2 _ hr hf
      · rw [if_pos c11] at hf
        refine rw_iconst (v := 0) dX8_isNumber_101 (by decide) ?_
        replace hf := Option.some.inj hf
        subst hf
        exact rw_zreturn dX8_isNumber_102 rfl (by decide) ⟨rfl, hr⟩ (by decide) (by decide)
def jX8_isNumber_48  (v1 : Int32) (v2 : Int32) (v3 : Int32) (s0 : Int32) (σ : rS) : Option (Int32 × rS) := (fX11_isFrom 1 6 ((σ.1 38 3) - s0) σ).bind fun q5 => if q5.1 = 0 then some (0, q5.2) else lX8_isNumber_75 1000 v1 v2 v3 0 s0 q5.2
set_option maxHeartbeats 4000000 in
theorem t_jX8_isNumber_48 {G : rG} {ad : Nat → Nat} {o : (Int32 × rS)}   (v1 : Int32) (v2 : Int32) (v3 : Int32) (s0 : Int32) (σ : rS) (h : rH) (hr : Rep G ad σ h) (hf : jX8_isNumber_48  v1 v2 v3 s0 σ = some o) : RW G mX8_isNumber (rm 1 0 0) (qI G ad o) xN 0 0 48 [(0, .ref (ad 38)), (1, .int v1), (2, .int v2), (3, .int v3)] [.int s0] h := by
  unfold jX8_isNumber_48 at hf
  refine rw_istore (lv2 := [(4, .int s0), (0, .ref (ad 38)), (1, .int v1), (2, .int v2), (3, .int v3)]) dX8_isNumber_48 (by decide) rfl ?_
  refine rw_iconst (v := 1) dX8_isNumber_50 (by decide) ?_
  refine rw_bipush (v := 6) dX8_isNumber_51 (by decide) ?_
  refine rw_aload_n dX8_isNumber_53 1 rfl rfl ?_
  refine sg_38_3 hr dX8_isNumber_54 fl392 ?_
  refine rw_iload dX8_isNumber_57 0 rfl ?_
  refine rw_isub dX8_isNumber_59 ?_
  obtain ⟨q5, hq5, hf⟩ := bnd hf
  refine kSN_I (ad := ad) (As := [.int 1, .int 6, .int ((σ.1 38 3) - s0)]) (st := []) dX8_isNumber_60 calX11_isFrom wm698 wm490 rfl rfl (Nat.le_of_ble_eq_true rfl) ⟨⟨by decide, by decide⟩, by decide, by decide⟩ (cmX11_isFrom hr hq5) (fun h hr => ?_)
  refine rw_if_ne (tgt := 68) dX8_isNumber_63 (by decide) (fun c6 => ?_) (fun c6 => ?_)
  · rw [if_neg c6] at hf
    refine rw_iconst (v := 0) dX8_isNumber_68 (by decide) ?_
    refine rw_istore (lv2 := [(5, .int 0), (4, .int s0), (0, .ref (ad 38)), (1, .int v1), (2, .int v2), (3, .int v3)]) dX8_isNumber_69 (by decide) rfl ?_
    refine rw_iload dX8_isNumber_71 1 rfl ?_
    refine rw_istore (lv2 := [(6, .int s0), (5, .int 0), (4, .int s0), (0, .ref (ad 38)), (1, .int v1), (2, .int v2), (3, .int v3)]) dX8_isNumber_73 (by decide) rfl ?_
    refine rw_sub [3, 4, 5, 6, 1, 0] rfl ?_
    exact t_lX8_isNumber_75 (ad := ad) (G := G)  1000 v1 v2 v3 0 s0 q5.2 _ hr hf
  · rw [if_pos c6] at hf
    refine rw_iconst (v := 0) dX8_isNumber_66 (by decide) ?_
    replace hf := Option.some.inj hf
    subst hf
    exact rw_zreturn dX8_isNumber_67 rfl (by decide) ⟨rfl, hr⟩ (by decide) (by decide)
def jX8_isNumber_30  (v1 : Int32) (v2 : Int32) (s0 : Int32) (σ : rS) : Option (Int32 × rS) := if s0 = 0 then jX8_isNumber_48 v1 v2 s0 (σ.1 38 2) σ else jX8_isNumber_48 v1 v2 s0 ((σ.1 38 2) + 1) σ
set_option maxHeartbeats 4000000 in
theorem t_jX8_isNumber_30 {G : rG} {ad : Nat → Nat} {o : (Int32 × rS)}   (v1 : Int32) (v2 : Int32) (s0 : Int32) (σ : rS) (h : rH) (hr : Rep G ad σ h) (hf : jX8_isNumber_30  v1 v2 s0 σ = some o) : RW G mX8_isNumber (rm 1 0 0) (qI G ad o) xN 0 0 30 [(0, .ref (ad 38)), (1, .int v1), (2, .int v2)] [.int s0] h := by
  unfold jX8_isNumber_30 at hf
  refine rw_istore_n (lv2 := [(3, .int s0), (0, .ref (ad 38)), (1, .int v1), (2, .int v2)]) dX8_isNumber_30 rfl (by decide) rfl ?_
  refine rw_iload_n dX8_isNumber_31 0 rfl rfl ?_
  refine rw_if_eq (tgt := 44) dX8_isNumber_32 (by decide) (fun c4 => ?_) (fun c4 => ?_)
  · rw [if_pos c4] at hf
    refine rw_aload_n dX8_isNumber_44 1 rfl rfl ?_
    refine sg_38_2 hr dX8_isNumber_45 fl391 ?_
    refine rw_sub [1, 2, 3, 0] rfl ?_
    exact t_jX8_isNumber_48 (ad := ad) (G := G)  v1 v2 s0 (σ.1 38 2) σ _ hr hf
  · rw [if_neg c4] at hf
    refine rw_aload_n dX8_isNumber_35 1 rfl rfl ?_
    refine sg_38_2 hr dX8_isNumber_36 fl391 ?_
    refine rw_iconst (v := 1) dX8_isNumber_39 (by decide) ?_
    refine rw_iadd dX8_isNumber_40 ?_
    refine rw_goto (tgt := 48) dX8_isNumber_41 (by decide) ?_
    refine rw_sub [1, 2, 3, 0] rfl ?_
    exact t_jX8_isNumber_48 (ad := ad) (G := G)  v1 v2 s0 ((σ.1 38 2) + 1) σ _ hr hf
def jX8_isNumber_29  (v1 : Int32) (v2 : Int32) (σ : rS) : Option (Int32 × rS) := jX8_isNumber_30 v1 v2 0 σ
set_option maxHeartbeats 4000000 in
theorem t_jX8_isNumber_29 {G : rG} {ad : Nat → Nat} {o : (Int32 × rS)}   (v1 : Int32) (v2 : Int32) (σ : rS) (h : rH) (hr : Rep G ad σ h) (hf : jX8_isNumber_29  v1 v2 σ = some o) : RW G mX8_isNumber (rm 1 0 0) (qI G ad o) xN 0 0 29 [(0, .ref (ad 38)), (1, .int v1), (2, .int v2)] [] h := by
  unfold jX8_isNumber_29 at hf
  refine rw_iconst (v := 0) dX8_isNumber_29 (by decide) ?_
  exact t_jX8_isNumber_30 (ad := ad) (G := G)  v1 v2 0 σ _ hr hf
def fX8_isNumber (a0 : Int32) (a1 : Int32) (σ : rS) : Option (Int32 × rS) := if (σ.1 38 3) ≤ (σ.1 38 2) then jX8_isNumber_29 a0 a1 σ else if inB (σ.1 38 2) 600 then (if (σ.2.2.1 39 (σ.1 38 2).toNatClampNeg) = 45 then jX8_isNumber_30 a0 a1 1 σ else jX8_isNumber_29 a0 a1 σ) else none
set_option maxHeartbeats 4000000 in
theorem cmX8_isNumber {G : rG} {ad : Nat → Nat} {a0 : Int32} {a1 : Int32} {σ : rS} {h : rH} {o : (Int32 × rS)} (hr : Rep G ad σ h) (hf : fX8_isNumber a0 a1 σ = some o) : rMT G mX8_isNumber (rm 1 0 0) [.ref (ad 38), .int a0, .int a1] h (qI G ad o) xN := by
  unfold fX8_isNumber at hf
  refine rw_met (by decide +kernel) rfl (Nat.le_of_ble_eq_true rfl) ?_
  show RW G _ _ _ _ 0 0 0 [(0, .ref (ad 38)), (1, .int a0), (2, .int a1)] [] h
  refine rw_aload_n dX8_isNumber_0 0 rfl rfl ?_
  refine sg_38_2 hr dX8_isNumber_1 fl391 ?_
  refine rw_aload_n dX8_isNumber_4 0 rfl rfl ?_
  refine sg_38_3 hr dX8_isNumber_5 fl392 ?_
  refine rw_icmp_ge (tgt := 29) dX8_isNumber_8 (by decide) (fun c1 => ?_) (fun c1 => ?_)
  · rw [if_pos c1] at hf
    exact t_jX8_isNumber_29 (ad := ad) (G := G)  a0 a1 σ _ hr hf
  · rw [if_neg c1] at hf
    refine rw_aload_n dX8_isNumber_11 0 rfl rfl ?_
    refine sg_38_0 hr dX8_isNumber_12 fl389 ?_
    refine rw_aload_n dX8_isNumber_15 0 rfl rfl ?_
    refine sg_38_2 hr dX8_isNumber_16 fl391 ?_
    obtain ⟨hi2, hf⟩ := grd hf
    refine sl_39 hr dX8_isNumber_19 (inB_in hi2) ?_
    refine rw_bipush (v := 45) dX8_isNumber_20 (by decide) ?_
    refine rw_icmp_ne (tgt := 29) dX8_isNumber_22 (by decide) (fun c3 => ?_) (fun c3 => ?_)
    · rw [if_neg c3] at hf
      exact t_jX8_isNumber_29 (ad := ad) (G := G)  a0 a1 σ _ hr hf
    · rw [if_pos c3] at hf
      refine rw_iconst (v := 1) dX8_isNumber_25 (by decide) ?_
      refine rw_goto (tgt := 30) dX8_isNumber_26 (by decide) ?_
      exact t_jX8_isNumber_30 (ad := ad) (G := G)  a0 a1 1 σ _ hr hf
def fX8_takeNumber (a0 : Int32) (a1 : Int32) (σ : rS) : Option (Int32 × rS) := (fX8_moveToNextWord σ).bind fun q1 => (fX8_isNumber a0 a1 q1.2).bind fun q2 => if q2.1 = 0 ∨ q2.1 = 1 then some (q2.1, q2.2) else none
set_option maxHeartbeats 4000000 in
theorem cmX8_takeNumber {G : rG} {ad : Nat → Nat} {a0 : Int32} {a1 : Int32} {σ : rS} {h : rH} {o : (Int32 × rS)} (hr : Rep G ad σ h) (hf : fX8_takeNumber a0 a1 σ = some o) : rMT G mX8_takeNumber (rm 2 0 0) [.ref (ad 38), .int a0, .int a1] h (qI G ad o) xN := by
  unfold fX8_takeNumber at hf
  refine rw_met (by decide +kernel) rfl (Nat.le_of_ble_eq_true rfl) ?_
  show RW G _ _ _ _ 0 0 0 [(0, .ref (ad 38)), (1, .int a0), (2, .int a1)] [] h
  refine rw_aload_n dX8_takeNumber_0 0 rfl rfl ?_
  obtain ⟨q1, hq1, hf⟩ := bnd hf
  refine kV_V (ad := ad) (As := []) (st := []) dX8_takeNumber_1 calX8_moveToNextWord wm707 wm709 wm16 rfl rfl (rc_38 hr) (ci := 8) (by decide) rfl rfl (Nat.le_of_ble_eq_true rfl) ⟨⟨by decide, by decide⟩, by decide, by decide⟩ (cmX8_moveToNextWord hr hq1) (fun h hr => ?_)
  refine rw_aload_n dX8_takeNumber_4 0 rfl rfl ?_
  refine rw_iload_n dX8_takeNumber_5 1 rfl rfl ?_
  refine rw_iload_n dX8_takeNumber_6 2 rfl rfl ?_
  obtain ⟨q2, hq2, hf⟩ := bnd hf
  refine kV_I (ad := ad) (As := [.int a0, .int a1]) (st := []) dX8_takeNumber_7 calX8_isNumber wm730 wm732 wm20 rfl rfl (rc_38 hr) (ci := 8) (by decide) rfl rfl (Nat.le_of_ble_eq_true rfl) ⟨⟨by decide, by decide⟩, by decide, by decide⟩ (cmX8_isNumber hr hq2) (fun h hr => ?_)
  obtain ⟨hz3, hf⟩ := grd hf
  replace hf := Option.some.inj hf
  subst hf
  exact rw_zreturn dX8_takeNumber_10 rfl (nar_z hz3) ⟨rfl, hr⟩ (by decide) (by decide)
def jX8_takeLayers_39   (σ : rS) : Option (Int32 × rS) := some (0, σ)
set_option maxHeartbeats 4000000 in
theorem t_jX8_takeLayers_39 {G : rG} {ad : Nat → Nat} {o : (Int32 × rS)}    (σ : rS) (h : rH) (hr : Rep G ad σ h) (hf : jX8_takeLayers_39   σ = some o) : RW G mX8_takeLayers (rm 3 0 0) (qI G ad o) xN 0 0 39 [] [] h := by
  unfold jX8_takeLayers_39 at hf
  refine rw_iconst (v := 0) dX8_takeLayers_39 (by decide) ?_
  replace hf := Option.some.inj hf
  subst hf
  exact rw_zreturn dX8_takeLayers_40 rfl (by decide) ⟨rfl, hr⟩ (by decide) (by decide)
def lX8_takeLayers_2  : Nat → Int32 → rS → Option (Int32 × rS)
  | 0, _, _ => none
  | n + 1, v2, σ => if 12 < v2 then some (0, σ) else (fX8_moveToNextWord σ).bind fun q2 => (fX8_isLetter 101 q2.2).bind fun q3 => if q3.1 = 0 then if v2 = 12 then jX8_takeLayers_39 q3.2 else (fX8_isNumber 0 7 q3.2).bind fun q6 => if q6.1 = 0 then jX8_takeLayers_39 q6.2 else vI (q6.2.1 38 5) fun x8 => (fX8_takeNumber 1 10000 q6.2).bind fun q9 => if q9.1 = 0 then some (0, q9.2) else (fX2_addLayerToStaged x8 (q9.2.1 38 5) q9.2).bind fun q11 => vI (v2 + 1) fun x12 => (lX8_takeLayers_2 n) x12 q11.2 else some (1, q3.2)
set_option maxHeartbeats 4000000 in
theorem t_lX8_takeLayers_2 {G : rG} {ad : Nat → Nat} {o : (Int32 × rS)}   : ∀ (n : Nat) (v2 : Int32) (σ : rS) (h : rH), Rep G ad σ h → lX8_takeLayers_2  n v2 σ = some o → RW G mX8_takeLayers (rm 3 0 0) (qI G ad o) xN 0 0 2 [(0, .ref (ad 38)), (1, .ref (ad 1)), (2, .int v2)] [] h := by
  intro n
  induction n with
  | zero =>
    intro v2 σ h hr hf
    rw [lX8_takeLayers_2] at hf
    cases hf
  | succ n ih =>
    intro v2 σ h hr hf
    rw [lX8_takeLayers_2] at hf
    refine rw_iload_n dX8_takeLayers_2 2 rfl rfl ?_
    refine rw_bipush (v := 12) dX8_takeLayers_3 (by decide) ?_
    refine rw_icmp_gt (tgt := 74) dX8_takeLayers_5 (by decide) (fun c1 => ?_) (fun c1 => ?_)
    · rw [if_pos c1] at hf
      refine rw_iconst (v := 0) dX8_takeLayers_74 (by decide) ?_
      replace hf := Option.some.inj hf
      subst hf
      exact rw_zreturn dX8_takeLayers_75 rfl (by decide) ⟨rfl, hr⟩ (by decide) (by decide)
    · rw [if_neg c1] at hf
      refine rw_aload_n dX8_takeLayers_8 0 rfl rfl ?_
      obtain ⟨q2, hq2, hf⟩ := bnd hf
      refine kV_V (ad := ad) (As := []) (st := []) dX8_takeLayers_9 calX8_moveToNextWord wm707 wm709 wm16 rfl rfl (rc_38 hr) (ci := 8) (by decide) rfl rfl (Nat.le_of_ble_eq_true rfl) ⟨⟨by decide, by decide⟩, by decide, by decide⟩ (cmX8_moveToNextWord hr hq2) (fun h hr => ?_)
      refine rw_aload_n dX8_takeLayers_12 0 rfl rfl ?_
      refine rw_bipush (v := 101) dX8_takeLayers_13 (by decide) ?_
      obtain ⟨q3, hq3, hf⟩ := bnd hf
      refine kV_I (ad := ad) (As := [.int 101]) (st := []) dX8_takeLayers_15 calX8_isLetter wm718 wm720 wm18 rfl rfl (rc_38 hr) (ci := 8) (by decide) rfl rfl (Nat.le_of_ble_eq_true rfl) ⟨⟨by decide, by decide⟩, by decide, by decide⟩ (cmX8_isLetter hr hq3) (fun h hr => ?_)
      refine rw_if_eq (tgt := 23) dX8_takeLayers_18 (by decide) (fun c4 => ?_) (fun c4 => ?_)
      · rw [if_pos c4] at hf
        refine rw_iload_n dX8_takeLayers_23 2 rfl rfl ?_
        refine rw_bipush (v := 12) dX8_takeLayers_24 (by decide) ?_
        refine rw_icmp_eq (tgt := 39) dX8_takeLayers_26 (by decide) (fun c5 => ?_) (fun c5 => ?_)
        · rw [if_pos c5] at hf
          refine rw_sub [] rfl ?_
          exact t_jX8_takeLayers_39 (ad := ad) (G := G)  q3.2 _ hr hf
        · rw [if_neg c5] at hf
          refine rw_aload_n dX8_takeLayers_29 0 rfl rfl ?_
          refine rw_iconst (v := 0) dX8_takeLayers_30 (by decide) ?_
          refine rw_bipush (v := 7) dX8_takeLayers_31 (by decide) ?_
          obtain ⟨q6, hq6, hf⟩ := bnd hf
          refine kV_I (ad := ad) (As := [.int 0, .int 7]) (st := []) dX8_takeLayers_33 calX8_isNumber wm730 wm732 wm20 rfl rfl (rc_38 hr) (ci := 8) (by decide) rfl rfl (Nat.le_of_ble_eq_true rfl) ⟨⟨by decide, by decide⟩, by decide, by decide⟩ (cmX8_isNumber hr hq6) (fun h hr => ?_)
          refine rw_if_ne (tgt := 41) dX8_takeLayers_36 (by decide) (fun c7 => ?_) (fun c7 => ?_)
          · rw [if_neg c7] at hf
            refine rw_aload_n dX8_takeLayers_41 0 rfl rfl ?_
            refine sg_38_5 hr dX8_takeLayers_42 fl394 ?_
            refine nmI hf (fun x8 hf => ?_)
            refine rw_istore_n (lv2 := [(3, .int x8), (0, .ref (ad 38)), (1, .ref (ad 1)), (2, .int v2)]) dX8_takeLayers_45 rfl (by decide) rfl ?_
            refine rw_aload_n dX8_takeLayers_46 1 rfl rfl ?_
            refine rw_iconst (v := 1) dX8_takeLayers_47 (by decide) ?_
            refine rw_sipush (v := 10000) dX8_takeLayers_48 (by decide) ?_
            obtain ⟨q9, hq9, hf⟩ := bnd hf
            refine kV_I (ad := ad) (As := [.int 1, .int 10000]) (st := []) dX8_takeLayers_51 calX8_takeNumber wm726 wm728 wm19 rfl rfl (rc_38 hr) (ci := 8) (by decide) rfl rfl (Nat.le_of_ble_eq_true rfl) ⟨⟨by decide, by decide⟩, by decide, by decide⟩ (cmX8_takeNumber hr hq9) (fun h hr => ?_)
            refine rw_if_ne (tgt := 59) dX8_takeLayers_54 (by decide) (fun c10 => ?_) (fun c10 => ?_)
            · rw [if_neg c10] at hf
              refine rw_aload_n dX8_takeLayers_59 2 rfl rfl ?_
              refine rw_iload_n dX8_takeLayers_60 0 rfl rfl ?_
              refine rw_aload_n dX8_takeLayers_61 1 rfl rfl ?_
              refine sg_38_5 hr dX8_takeLayers_62 fl394 ?_
              obtain ⟨q11, hq11, hf⟩ := bnd hf
              refine kV_V (ad := ad) (As := [.int x8, .int (q9.2.1 38 5)]) (st := []) dX8_takeLayers_65 calX2_addLayerToStaged wm754 wm755 wm756 rfl rfl (rc_1 hr) (ci := 3) (by decide) rfl rfl (Nat.le_of_ble_eq_true rfl) ⟨⟨by decide, by decide⟩, by decide, by decide⟩ (cmX2_addLayerToStaged hr hq11) (fun h hr => ?_)
              refine rw_iinc (v := v2 + 1) (lv2 := [(2, .int (v2 + 1)), (3, .int x8), (0, .ref (ad 38)), (1, .ref (ad 1))]) dX8_takeLayers_68 3 rfl rfl (by decide) rfl ?_
              refine nmL hf (fun x12 hf => ?_)
              refine rw_goto (tgt := 2) dX8_takeLayers_71 (by decide) ?_
              refine rw_sub [2, 3, 0] rfl ?_
              exact ih x12 q11.2 _ hr hf
            · rw [if_pos c10] at hf
              refine rw_iconst (v := 0) dX8_takeLayers_57 (by decide) ?_
              replace hf := Option.some.inj hf
              subst hf
              exact rw_zreturn dX8_takeLayers_58 rfl (by decide) ⟨rfl, hr⟩ (by decide) (by decide)
          · rw [if_pos c7] at hf
            refine rw_sub [] rfl ?_
            exact t_jX8_takeLayers_39 (ad := ad) (G := G)  q6.2 _ hr hf
      · rw [if_neg c4] at hf
        refine rw_iconst (v := 1) dX8_takeLayers_21 (by decide) ?_
        replace hf := Option.some.inj hf
        subst hf
        exact rw_zreturn dX8_takeLayers_22 rfl (by decide) ⟨rfl, hr⟩ (by decide) (by decide)
def fX8_takeLayers  (σ : rS) : Option (Int32 × rS) := lX8_takeLayers_2 1000 0 σ
set_option maxHeartbeats 4000000 in
theorem cmX8_takeLayers {G : rG} {ad : Nat → Nat}  {σ : rS} {h : rH} {o : (Int32 × rS)} (hr : Rep G ad σ h) (hf : fX8_takeLayers  σ = some o) : rMT G mX8_takeLayers (rm 3 0 0) [.ref (ad 38), .ref (ad 1)] h (qI G ad o) xN := by
  unfold fX8_takeLayers at hf
  refine rw_met (by decide +kernel) rfl (Nat.le_of_ble_eq_true rfl) ?_
  show RW G _ _ _ _ 0 0 0 [(0, .ref (ad 38)), (1, .ref (ad 1))] [] h
  refine rw_iconst (v := 0) dX8_takeLayers_0 (by decide) ?_
  refine rw_istore_n (lv2 := [(2, .int 0), (0, .ref (ad 38)), (1, .ref (ad 1))]) dX8_takeLayers_1 rfl (by decide) rfl ?_
  refine rw_sub [1, 2, 0] rfl ?_
  exact t_lX8_takeLayers_2 (ad := ad) (G := G)  1000 0 σ _ hr hf
def jX8_takeBoring_62   (σ : rS) : Option (Int32 × rS) := some (0, σ)
set_option maxHeartbeats 4000000 in
theorem t_jX8_takeBoring_62 {G : rG} {ad : Nat → Nat} {o : (Int32 × rS)}    (σ : rS) (h : rH) (hr : Rep G ad σ h) (hf : jX8_takeBoring_62   σ = some o) : RW G mX8_takeBoring (rm 4 0 0) (qI G ad o) xN 0 0 62 [] [] h := by
  unfold jX8_takeBoring_62 at hf
  refine rw_iconst (v := 0) dX8_takeBoring_62 (by decide) ?_
  replace hf := Option.some.inj hf
  subst hf
  exact rw_zreturn dX8_takeBoring_63 rfl (by decide) ⟨rfl, hr⟩ (by decide) (by decide)
def jX8_takeBoring_29   (σ : rS) : Option (Int32 × rS) := some (0, σ)
set_option maxHeartbeats 4000000 in
theorem t_jX8_takeBoring_29 {G : rG} {ad : Nat → Nat} {o : (Int32 × rS)}    (σ : rS) (h : rH) (hr : Rep G ad σ h) (hf : jX8_takeBoring_29   σ = some o) : RW G mX8_takeBoring (rm 4 0 0) (qI G ad o) xN 0 0 29 [] [] h := by
  unfold jX8_takeBoring_29 at hf
  refine rw_iconst (v := 0) dX8_takeBoring_29 (by decide) ?_
  replace hf := Option.some.inj hf
  subst hf
  exact rw_zreturn dX8_takeBoring_30 rfl (by decide) ⟨rfl, hr⟩ (by decide) (by decide)
def fX8_takeBoring  (σ : rS) : Option (Int32 × rS) := (fX8_isLetter 98 σ).bind fun q1 => if q1.1 = 0 then jX8_takeBoring_29 q1.2 else (fX2_isFull q1.2).bind fun q3 => if q3.1 = 0 then (fX8_takeNumber ((-1000)) 1000 q3.2).bind fun q5 => if q5.1 = 0 then jX8_takeBoring_29 q5.2 else vI (q5.2.1 38 5) fun x7 => (fX8_takeNumber ((-1000)) 1000 q5.2).bind fun q8 => if q8.1 = 0 then jX8_takeBoring_62 q8.2 else (fX2_numberAt x7 (q8.2.1 38 5) q8.2).bind fun q10 => if q10.1 = ((-1)) then vI (q10.2.1 38 5) fun x12 => (fX8_takeNumber ((-100000)) 100000 q10.2).bind fun q13 => if q13.1 = 0 then some (0, q13.2) else (fX2_stage x7 x12 (q13.2.1 38 5) q13.2).bind fun q15 => (fX8_takeLayers q15.2).bind fun q16 => if q16.1 = 0 ∨ q16.1 = 1 then some (q16.1, q16.2) else none else jX8_takeBoring_62 q10.2 else jX8_takeBoring_29 q3.2
set_option maxHeartbeats 4000000 in
theorem cmX8_takeBoring {G : rG} {ad : Nat → Nat}  {σ : rS} {h : rH} {o : (Int32 × rS)} (hr : Rep G ad σ h) (hf : fX8_takeBoring  σ = some o) : rMT G mX8_takeBoring (rm 4 0 0) [.ref (ad 38), .ref (ad 1)] h (qI G ad o) xN := by
  unfold fX8_takeBoring at hf
  refine rw_met (by decide +kernel) rfl (Nat.le_of_ble_eq_true rfl) ?_
  show RW G _ _ _ _ 0 0 0 [(0, .ref (ad 38)), (1, .ref (ad 1))] [] h
  refine rw_aload_n dX8_takeBoring_0 0 rfl rfl ?_
  refine rw_bipush (v := 98) dX8_takeBoring_1 (by decide) ?_
  obtain ⟨q1, hq1, hf⟩ := bnd hf
  refine kV_I (ad := ad) (As := [.int 98]) (st := []) dX8_takeBoring_3 calX8_isLetter wm718 wm720 wm18 rfl rfl (rc_38 hr) (ci := 8) (by decide) rfl rfl (Nat.le_of_ble_eq_true rfl) ⟨⟨by decide, by decide⟩, by decide, by decide⟩ (cmX8_isLetter hr hq1) (fun h hr => ?_)
  refine rw_if_eq (tgt := 29) dX8_takeBoring_6 (by decide) (fun c2 => ?_) (fun c2 => ?_)
  · rw [if_pos c2] at hf
    refine rw_sub [] rfl ?_
    exact t_jX8_takeBoring_29 (ad := ad) (G := G)  q1.2 _ hr hf
  · rw [if_neg c2] at hf
    refine rw_aload_n dX8_takeBoring_9 1 rfl rfl ?_
    obtain ⟨q3, hq3, hf⟩ := bnd hf
    refine kV_I (ad := ad) (As := []) (st := []) dX8_takeBoring_10 calX2_isFull wm722 wm723 wm724 rfl rfl (rc_1 hr) (ci := 3) (by decide) rfl rfl (Nat.le_of_ble_eq_true rfl) ⟨⟨by decide, by decide⟩, by decide, by decide⟩ (cmX2_isFull hr hq3) (fun h hr => ?_)
    refine rw_if_ne (tgt := 29) dX8_takeBoring_13 (by decide) (fun c4 => ?_) (fun c4 => ?_)
    · rw [if_neg c4] at hf
      refine rw_sub [] rfl ?_
      exact t_jX8_takeBoring_29 (ad := ad) (G := G)  q3.2 _ hr hf
    · rw [if_pos c4] at hf
      refine rw_aload_n dX8_takeBoring_16 0 rfl rfl ?_
      refine rw_sipush (v := (-1000)) dX8_takeBoring_17 (by decide) ?_
      refine rw_sipush (v := 1000) dX8_takeBoring_20 (by decide) ?_
      obtain ⟨q5, hq5, hf⟩ := bnd hf
      refine kV_I (ad := ad) (As := [.int ((-1000)), .int 1000]) (st := []) dX8_takeBoring_23 calX8_takeNumber wm726 wm728 wm19 rfl rfl (rc_38 hr) (ci := 8) (by decide) rfl rfl (Nat.le_of_ble_eq_true rfl) ⟨⟨by decide, by decide⟩, by decide, by decide⟩ (cmX8_takeNumber hr hq5) (fun h hr => ?_)
      refine rw_if_ne (tgt := 31) dX8_takeBoring_26 (by decide) (fun c6 => ?_) (fun c6 => ?_)
      · rw [if_neg c6] at hf
        refine rw_aload_n dX8_takeBoring_31 0 rfl rfl ?_
        refine sg_38_5 hr dX8_takeBoring_32 fl394 ?_
        refine nmI hf (fun x7 hf => ?_)
        refine rw_istore_n (lv2 := [(2, .int x7), (0, .ref (ad 38)), (1, .ref (ad 1))]) dX8_takeBoring_35 rfl (by decide) rfl ?_
        refine rw_aload_n dX8_takeBoring_36 1 rfl rfl ?_
        refine rw_sipush (v := (-1000)) dX8_takeBoring_37 (by decide) ?_
        refine rw_sipush (v := 1000) dX8_takeBoring_40 (by decide) ?_
        obtain ⟨q8, hq8, hf⟩ := bnd hf
        refine kV_I (ad := ad) (As := [.int ((-1000)), .int 1000]) (st := []) dX8_takeBoring_43 calX8_takeNumber wm726 wm728 wm19 rfl rfl (rc_38 hr) (ci := 8) (by decide) rfl rfl (Nat.le_of_ble_eq_true rfl) ⟨⟨by decide, by decide⟩, by decide, by decide⟩ (cmX8_takeNumber hr hq8) (fun h hr => ?_)
        refine rw_if_eq (tgt := 62) dX8_takeBoring_46 (by decide) (fun c9 => ?_) (fun c9 => ?_)
        · rw [if_pos c9] at hf
          refine rw_sub [] rfl ?_
          exact t_jX8_takeBoring_62 (ad := ad) (G := G)  q8.2 _ hr hf
        · rw [if_neg c9] at hf
          refine rw_aload_n dX8_takeBoring_49 2 rfl rfl ?_
          refine rw_iload_n dX8_takeBoring_50 0 rfl rfl ?_
          refine rw_aload_n dX8_takeBoring_51 1 rfl rfl ?_
          refine sg_38_5 hr dX8_takeBoring_52 fl394 ?_
          obtain ⟨q10, hq10, hf⟩ := bnd hf
          refine kV_I (ad := ad) (As := [.int x7, .int (q8.2.1 38 5)]) (st := []) dX8_takeBoring_55 calX2_numberAt wm734 wm735 wm736 rfl rfl (rc_1 hr) (ci := 3) (by decide) rfl rfl (Nat.le_of_ble_eq_true rfl) ⟨⟨by decide, by decide⟩, by decide, by decide⟩ (cmX2_numberAt hr hq10) (fun h hr => ?_)
          refine rw_iconst (v := (-1)) dX8_takeBoring_58 (by decide) ?_
          refine rw_icmp_eq (tgt := 64) dX8_takeBoring_59 (by decide) (fun c11 => ?_) (fun c11 => ?_)
          · rw [if_pos c11] at hf
            refine rw_aload_n dX8_takeBoring_64 1 rfl rfl ?_
            refine sg_38_5 hr dX8_takeBoring_65 fl394 ?_
            refine nmI hf (fun x12 hf => ?_)
            refine rw_istore_n (lv2 := [(3, .int x12), (2, .int x7), (0, .ref (ad 38)), (1, .ref (ad 1))]) dX8_takeBoring_68 rfl (by decide) rfl ?_
            refine rw_aload_n dX8_takeBoring_69 2 rfl rfl ?_
            refine rw_ldc (v := (-100000)) dX8_takeBoring_70 wm738 ?_
            refine rw_ldc (v := 100000) dX8_takeBoring_72 wm739 ?_
            obtain ⟨q13, hq13, hf⟩ := bnd hf
            refine kV_I (ad := ad) (As := [.int ((-100000)), .int 100000]) (st := []) dX8_takeBoring_74 calX8_takeNumber wm726 wm728 wm19 rfl rfl (rc_38 hr) (ci := 8) (by decide) rfl rfl (Nat.le_of_ble_eq_true rfl) ⟨⟨by decide, by decide⟩, by decide, by decide⟩ (cmX8_takeNumber hr hq13) (fun h hr => ?_)
            refine rw_if_ne (tgt := 82) dX8_takeBoring_77 (by decide) (fun c14 => ?_) (fun c14 => ?_)
            · rw [if_neg c14] at hf
              refine rw_aload_n dX8_takeBoring_82 3 rfl rfl ?_
              refine rw_iload_n dX8_takeBoring_83 1 rfl rfl ?_
              refine rw_iload_n dX8_takeBoring_84 0 rfl rfl ?_
              refine rw_aload_n dX8_takeBoring_85 2 rfl rfl ?_
              refine sg_38_5 hr dX8_takeBoring_86 fl394 ?_
              obtain ⟨q15, hq15, hf⟩ := bnd hf
              refine kV_V (ad := ad) (As := [.int x7, .int x12, .int (q13.2.1 38 5)]) (st := []) dX8_takeBoring_89 calX2_stage wm740 wm741 wm742 rfl rfl (rc_1 hr) (ci := 3) (by decide) rfl rfl (Nat.le_of_ble_eq_true rfl) ⟨⟨by decide, by decide⟩, by decide, by decide⟩ (cmX2_stage hr hq15) (fun h hr => ?_)
              refine rw_aload_n dX8_takeBoring_92 2 rfl rfl ?_
              refine rw_aload_n dX8_takeBoring_93 3 rfl rfl ?_
              obtain ⟨q16, hq16, hf⟩ := bnd hf
              refine kV_I (ad := ad) (As := [.ref (ad 1)]) (st := []) dX8_takeBoring_94 calX8_takeLayers wm750 wm752 wm21 rfl rfl (rc_38 hr) (ci := 8) (by decide) rfl rfl (Nat.le_of_ble_eq_true rfl) ⟨⟨by decide, by decide⟩, by decide, by decide⟩ (cmX8_takeLayers hr hq16) (fun h hr => ?_)
              obtain ⟨hz17, hf⟩ := grd hf
              replace hf := Option.some.inj hf
              subst hf
              exact rw_zreturn dX8_takeBoring_97 rfl (nar_z hz17) ⟨rfl, hr⟩ (by decide) (by decide)
            · rw [if_pos c14] at hf
              refine rw_iconst (v := 0) dX8_takeBoring_80 (by decide) ?_
              replace hf := Option.some.inj hf
              subst hf
              exact rw_zreturn dX8_takeBoring_81 rfl (by decide) ⟨rfl, hr⟩ (by decide) (by decide)
          · rw [if_neg c11] at hf
            refine rw_sub [] rfl ?_
            exact t_jX8_takeBoring_62 (ad := ad) (G := G)  q10.2 _ hr hf
      · rw [if_pos c6] at hf
        refine rw_sub [] rfl ?_
        exact t_jX8_takeBoring_29 (ad := ad) (G := G)  q5.2 _ hr hf
def lX8_stageBorings_12  : Nat → Int32 → rS → Option (Int32 × rS)
  | 0, _, _ => none
  | n + 1, v2, σ => if 16 < v2 then some ((((-1)) - (σ.1 38 4)), σ) else (fX8_moveToNextWord σ).bind fun q4 => if (q4.2.1 38 2) < (q4.2.1 38 1) then (fX8_takeBoring q4.2).bind fun q6 => if q6.1 = 0 then some ((((-1)) - (q6.2.1 38 4)), q6.2) else vI (v2 + 1) fun x8 => (lX8_stageBorings_12 n) x8 q6.2 else some (v2, q4.2)
set_option maxHeartbeats 4000000 in
theorem t_lX8_stageBorings_12 {G : rG} {ad : Nat → Nat} {o : (Int32 × rS)}   : ∀ (n : Nat) (v2 : Int32) (σ : rS) (h : rH), Rep G ad σ h → lX8_stageBorings_12  n v2 σ = some o → RW G mX8_stageBorings (rm 5 0 0) (qI G ad o) xN 0 0 12 [(0, .ref (ad 38)), (1, .ref (ad 1)), (2, .int v2)] [] h := by
  intro n
  induction n with
  | zero =>
    intro v2 σ h hr hf
    rw [lX8_stageBorings_12] at hf
    cases hf
  | succ n ih =>
    intro v2 σ h hr hf
    rw [lX8_stageBorings_12] at hf
    refine rw_iload_n dX8_stageBorings_12 2 rfl rfl ?_
    refine rw_bipush (v := 16) dX8_stageBorings_13 (by decide) ?_
    refine rw_icmp_gt (tgt := 56) dX8_stageBorings_15 (by decide) (fun c3 => ?_) (fun c3 => ?_)
    · rw [if_pos c3] at hf
      refine rw_iconst (v := (-1)) dX8_stageBorings_56 (by decide) ?_
      refine rw_aload_n dX8_stageBorings_57 0 rfl rfl ?_
      refine sg_38_4 hr dX8_stageBorings_58 fl393 ?_
      refine rw_isub dX8_stageBorings_61 ?_
      replace hf := Option.some.inj hf
      subst hf
      exact rw_ireturn dX8_stageBorings_62 rfl ⟨rfl, hr⟩ (by decide) (by decide)
    · rw [if_neg c3] at hf
      refine rw_aload_n dX8_stageBorings_18 0 rfl rfl ?_
      obtain ⟨q4, hq4, hf⟩ := bnd hf
      refine kV_V (ad := ad) (As := []) (st := []) dX8_stageBorings_19 calX8_moveToNextWord wm707 wm709 wm16 rfl rfl (rc_38 hr) (ci := 8) (by decide) rfl rfl (Nat.le_of_ble_eq_true rfl) ⟨⟨by decide, by decide⟩, by decide, by decide⟩ (cmX8_moveToNextWord hr hq4) (fun h hr => ?_)
      refine rw_aload_n dX8_stageBorings_22 0 rfl rfl ?_
      refine sg_38_2 hr dX8_stageBorings_23 fl391 ?_
      refine rw_aload_n dX8_stageBorings_26 0 rfl rfl ?_
      refine sg_38_1 hr dX8_stageBorings_27 fl390 ?_
      refine rw_icmp_lt (tgt := 35) dX8_stageBorings_30 (by decide) (fun c5 => ?_) (fun c5 => ?_)
      · rw [if_pos c5] at hf
        refine rw_aload_n dX8_stageBorings_35 0 rfl rfl ?_
        refine rw_aload_n dX8_stageBorings_36 1 rfl rfl ?_
        obtain ⟨q6, hq6, hf⟩ := bnd hf
        refine kV_I (ad := ad) (As := [.ref (ad 1)]) (st := []) dX8_stageBorings_37 calX8_takeBoring wm714 wm716 wm17 rfl rfl (rc_38 hr) (ci := 8) (by decide) rfl rfl (Nat.le_of_ble_eq_true rfl) ⟨⟨by decide, by decide⟩, by decide, by decide⟩ (cmX8_takeBoring hr hq6) (fun h hr => ?_)
        refine rw_if_ne (tgt := 50) dX8_stageBorings_40 (by decide) (fun c7 => ?_) (fun c7 => ?_)
        · rw [if_neg c7] at hf
          refine rw_iinc (v := v2 + 1) (lv2 := [(2, .int (v2 + 1)), (0, .ref (ad 38)), (1, .ref (ad 1))]) dX8_stageBorings_50 2 rfl rfl (by decide) rfl ?_
          refine nmL hf (fun x8 hf => ?_)
          refine rw_goto (tgt := 12) dX8_stageBorings_53 (by decide) ?_
          refine rw_sub [1, 2, 0] rfl ?_
          exact ih x8 q6.2 _ hr hf
        · rw [if_pos c7] at hf
          refine rw_iconst (v := (-1)) dX8_stageBorings_43 (by decide) ?_
          refine rw_aload_n dX8_stageBorings_44 0 rfl rfl ?_
          refine sg_38_4 hr dX8_stageBorings_45 fl393 ?_
          refine rw_isub dX8_stageBorings_48 ?_
          replace hf := Option.some.inj hf
          subst hf
          exact rw_ireturn dX8_stageBorings_49 rfl ⟨rfl, hr⟩ (by decide) (by decide)
      · rw [if_neg c5] at hf
        refine rw_iload_n dX8_stageBorings_33 2 rfl rfl ?_
        replace hf := Option.some.inj hf
        subst hf
        exact rw_ireturn dX8_stageBorings_34 rfl ⟨rfl, hr⟩ (by decide) (by decide)
def fX8_stageBorings  (σ : rS) : Option (Int32 × rS) := vS (uI σ 38 3 0) fun σ1 => vS (uI σ1 38 4 ((-1))) fun σ2 => lX8_stageBorings_12 1000 0 σ2
set_option maxHeartbeats 4000000 in
theorem cmX8_stageBorings {G : rG} {ad : Nat → Nat}  {σ : rS} {h : rH} {o : (Int32 × rS)} (hr : Rep G ad σ h) (hf : fX8_stageBorings  σ = some o) : rMT G mX8_stageBorings (rm 5 0 0) [.ref (ad 38), .ref (ad 1)] h (qI G ad o) xN := by
  unfold fX8_stageBorings at hf
  refine rw_met (by decide +kernel) rfl (Nat.le_of_ble_eq_true rfl) ?_
  show RW G _ _ _ _ 0 0 0 [(0, .ref (ad 38)), (1, .ref (ad 1))] [] h
  refine rw_aload_n dX8_stageBorings_0 0 rfl rfl ?_
  refine rw_iconst (v := 0) dX8_stageBorings_1 (by decide) ?_
  refine sp_38_3 hr dX8_stageBorings_2 fl392 (fun h hr => ?_)
  refine nmS hf hr (fun σ1 hr hf => ?_)
  refine rw_aload_n dX8_stageBorings_5 0 rfl rfl ?_
  refine rw_iconst (v := (-1)) dX8_stageBorings_6 (by decide) ?_
  refine sp_38_4 hr dX8_stageBorings_7 fl393 (fun h hr => ?_)
  refine nmS hf hr (fun σ2 hr hf => ?_)
  refine rw_iconst (v := 0) dX8_stageBorings_10 (by decide) ?_
  refine rw_istore_n (lv2 := [(2, .int 0), (0, .ref (ad 38)), (1, .ref (ad 1))]) dX8_stageBorings_11 rfl (by decide) rfl ?_
  refine rw_sub [1, 2, 0] rfl ?_
  exact t_lX8_stageBorings_12 (ad := ad) (G := G)  1000 0 σ2 _ hr hf
def jX9_goTo_219 (k39 : Int32 → rS → Option (Unit × rS)) (v5 : Int32) (σ : rS) : Option (Unit × rS) := vI (v5 + 1) fun x30 => k39 x30 σ
set_option maxHeartbeats 4000000 in
theorem t_jX9_goTo_219 {G : rG} {ad : Nat → Nat} {o : (Unit × rS)} (k39 : Int32 → rS → Option (Unit × rS)) (hk39 : ∀ (v5 : Int32) (σ : rS) (h : rH), Rep G ad σ h → k39 v5 σ = some o → RW G mX9_goTo (rm 2 0 0) (qV G ad o) xN 0 0 39 [(0, .ref (ad 34)), (3, .ref (ad 1)), (4, .ref (ad 10)), (5, .int v5)] [] h) (v5 : Int32) (σ : rS) (h : rH) (hr : Rep G ad σ h) (hf : jX9_goTo_219 k39 v5 σ = some o) : RW G mX9_goTo (rm 2 0 0) (qV G ad o) xN 0 0 219 [(0, .ref (ad 34)), (3, .ref (ad 1)), (4, .ref (ad 10)), (5, .int v5)] [] h := by
  unfold jX9_goTo_219 at hf
  refine rw_iinc (v := v5 + 1) (lv2 := [(5, .int (v5 + 1)), (0, .ref (ad 34)), (3, .ref (ad 1)), (4, .ref (ad 10))]) dX9_goTo_219 3 rfl rfl (by decide) rfl ?_
  refine nmL hf (fun x30 hf => ?_)
  refine rw_goto (tgt := 39) dX9_goTo_222 (by decide) ?_
  refine rw_sub [1, 2, 3, 0] rfl ?_
  exact hk39 x30 σ _ hr hf
def lX9_goTo_39  : Nat → Int32 → rS → Option (Unit × rS)
  | 0, _, _ => none
  | n + 1, v5, σ => if (σ.1 10 6) ≤ v5 then some ((), σ) else (fX6_cornerOf v5 0 σ).bind fun q7 => if inB q7.1 16 then if isBo (80 + 4 * q7.1.toNatClampNeg) then (fX6_cornerOf v5 1 q7.2).bind fun q10 => if inB q10.1 16 then if isBo (80 + 4 * q10.1.toNatClampNeg) then (fX6_cornerOf v5 2 q10.2).bind fun q13 => if inB q13.1 16 then if isBo (80 + 4 * q13.1.toNatClampNeg) then (fX7_isInTriangle (80 + 4 * q7.1.toNatClampNeg + 1) (80 + 4 * q10.1.toNatClampNeg + 1) (80 + 4 * q13.1.toNatClampNeg + 1) 35 q13.2).bind fun q16 => (if q16.1 = 0 then jX9_goTo_219 (lX9_goTo_39 n) v5 q16.2 else if inB (q16.2.1 34 6) 27 then vS (uA q16.2 36 (q16.2.1 34 6).toNatClampNeg v5) fun σ19 => (fX7_turn (80 + 4 * q10.1.toNatClampNeg + 1) (80 + 4 * q13.1.toNatClampNeg + 1) 35 σ19).bind fun q20 => if inB (3 * (σ19.1 34 6)) 81 then vS (uA q20.2 37 (3 * (σ19.1 34 6)).toNatClampNeg (if 0 ≤ q20.1 then q20.1 else 0 - q20.1)) fun σ22 => (fX7_turn (80 + 4 * q13.1.toNatClampNeg + 1) (80 + 4 * q7.1.toNatClampNeg + 1) 35 σ22).bind fun q23 => if inB ((3 * (σ22.1 34 6)) + 1) 81 then vS (uA q23.2 37 ((3 * (σ22.1 34 6)) + 1).toNatClampNeg (if 0 ≤ q23.1 then q23.1 else 0 - q23.1)) fun σ25 => (fX7_turn (80 + 4 * q7.1.toNatClampNeg + 1) (80 + 4 * q10.1.toNatClampNeg + 1) 35 σ25).bind fun q26 => if inB ((3 * (σ25.1 34 6)) + 2) 81 then vS (uA q26.2 37 ((3 * (σ25.1 34 6)) + 2).toNatClampNeg (if 0 ≤ q26.1 then q26.1 else 0 - q26.1)) fun σ28 => vS (uI σ28 34 6 ((σ28.1 34 6) + 1)) fun σ29 => jX9_goTo_219 (lX9_goTo_39 n) v5 σ29 else none else none else none else none) else none else none else none else none else none else none
set_option maxHeartbeats 4000000 in
theorem t_lX9_goTo_39 {G : rG} {ad : Nat → Nat} {o : (Unit × rS)}   : ∀ (n : Nat) (v5 : Int32) (σ : rS) (h : rH), Rep G ad σ h → lX9_goTo_39  n v5 σ = some o → RW G mX9_goTo (rm 2 0 0) (qV G ad o) xN 0 0 39 [(0, .ref (ad 34)), (3, .ref (ad 1)), (4, .ref (ad 10)), (5, .int v5)] [] h := by
  intro n
  induction n with
  | zero =>
    intro v5 σ h hr hf
    rw [lX9_goTo_39] at hf
    cases hf
  | succ n ih =>
    intro v5 σ h hr hf
    rw [lX9_goTo_39] at hf
    refine rw_iload dX9_goTo_39 3 rfl ?_
    refine rw_aload dX9_goTo_41 2 rfl ?_
    refine sg_10_6 hr dX9_goTo_43 fl245 ?_
    refine rw_icmp_ge (tgt := 225) dX9_goTo_46 (by decide) (fun c6 => ?_) (fun c6 => ?_)
    · rw [if_pos c6] at hf
      replace hf := Option.some.inj hf
      subst hf
      exact rw_return dX9_goTo_225 rfl ⟨rfl, hr⟩ (by decide) (by decide)
    · rw [if_neg c6] at hf
      refine rw_aload_n dX9_goTo_49 1 rfl rfl ?_
      refine sg_1_0 hr dX9_goTo_50 fl166 ?_
      refine rw_aload dX9_goTo_53 2 rfl ?_
      refine rw_iload dX9_goTo_55 3 rfl ?_
      refine rw_iconst (v := 0) dX9_goTo_57 (by decide) ?_
      obtain ⟨q7, hq7, hf⟩ := bnd hf
      refine kV_I (ad := ad) (As := [.int v5, .int 0]) (st := [.ref (ad 2)]) dX9_goTo_58 calX6_cornerOf wm1078 wm986 wm987 rfl rfl (rc_10 hr) (ci := 6) (by decide) rfl rfl (Nat.le_of_ble_eq_true rfl) ⟨⟨by decide, by decide⟩, by decide, by decide⟩ (cmX6_cornerOf hr hq7) (fun h hr => ?_)
      obtain ⟨hi8, hf⟩ := grd hf
      refine sa_2 hr dX9_goTo_61 (inB_in hi8) ?_
      obtain ⟨hp9, hf⟩ := grd hf
      refine sg_Bo_0 hr dX9_goTo_62 fl135 hp9 ?_
      refine rw_astore (lv2 := [(6, .ref (ad (80 + 4 * q7.1.toNatClampNeg + 1))), (0, .ref (ad 34)), (3, .ref (ad 1)), (4, .ref (ad 10)), (5, .int v5)]) dX9_goTo_65 (by decide) rfl ?_
      refine rw_aload_n dX9_goTo_67 2 rfl rfl ?_
      refine sg_1_0 hr dX9_goTo_68 fl166 ?_
      refine rw_aload dX9_goTo_71 3 rfl ?_
      refine rw_iload dX9_goTo_73 4 rfl ?_
      refine rw_iconst (v := 1) dX9_goTo_75 (by decide) ?_
      obtain ⟨q10, hq10, hf⟩ := bnd hf
      refine kV_I (ad := ad) (As := [.int v5, .int 1]) (st := [.ref (ad 2)]) dX9_goTo_76 calX6_cornerOf wm1078 wm986 wm987 rfl rfl (rc_10 hr) (ci := 6) (by decide) rfl rfl (Nat.le_of_ble_eq_true rfl) ⟨⟨by decide, by decide⟩, by decide, by decide⟩ (cmX6_cornerOf hr hq10) (fun h hr => ?_)
      obtain ⟨hi11, hf⟩ := grd hf
      refine sa_2 hr dX9_goTo_79 (inB_in hi11) ?_
      obtain ⟨hp12, hf⟩ := grd hf
      refine sg_Bo_0 hr dX9_goTo_80 fl135 hp12 ?_
      refine rw_astore (lv2 := [(7, .ref (ad (80 + 4 * q10.1.toNatClampNeg + 1))), (6, .ref (ad (80 + 4 * q7.1.toNatClampNeg + 1))), (0, .ref (ad 34)), (3, .ref (ad 1)), (4, .ref (ad 10)), (5, .int v5)]) dX9_goTo_83 (by decide) rfl ?_
      refine rw_aload_n dX9_goTo_85 3 rfl rfl ?_
      refine sg_1_0 hr dX9_goTo_86 fl166 ?_
      refine rw_aload dX9_goTo_89 4 rfl ?_
      refine rw_iload dX9_goTo_91 5 rfl ?_
      refine rw_iconst (v := 2) dX9_goTo_93 (by decide) ?_
      obtain ⟨q13, hq13, hf⟩ := bnd hf
      refine kV_I (ad := ad) (As := [.int v5, .int 2]) (st := [.ref (ad 2)]) dX9_goTo_94 calX6_cornerOf wm1078 wm986 wm987 rfl rfl (rc_10 hr) (ci := 6) (by decide) rfl rfl (Nat.le_of_ble_eq_true rfl) ⟨⟨by decide, by decide⟩, by decide, by decide⟩ (cmX6_cornerOf hr hq13) (fun h hr => ?_)
      obtain ⟨hi14, hf⟩ := grd hf
      refine sa_2 hr dX9_goTo_97 (inB_in hi14) ?_
      obtain ⟨hp15, hf⟩ := grd hf
      refine sg_Bo_0 hr dX9_goTo_98 fl135 hp15 ?_
      refine rw_astore (lv2 := [(8, .ref (ad (80 + 4 * q13.1.toNatClampNeg + 1))), (7, .ref (ad (80 + 4 * q10.1.toNatClampNeg + 1))), (6, .ref (ad (80 + 4 * q7.1.toNatClampNeg + 1))), (0, .ref (ad 34)), (3, .ref (ad 1)), (4, .ref (ad 10)), (5, .int v5)]) dX9_goTo_101 (by decide) rfl ?_
      refine rw_aload dX9_goTo_103 2 rfl ?_
      refine rw_aload dX9_goTo_105 1 rfl ?_
      refine rw_aload dX9_goTo_107 0 rfl ?_
      refine rw_aload_n dX9_goTo_109 3 rfl rfl ?_
      refine sg_34_2 hr dX9_goTo_110 fl363 ?_
      obtain ⟨q16, hq16, hf⟩ := bnd hf
      refine kS_I (ad := ad) (As := [.ref (ad (80 + 4 * q7.1.toNatClampNeg + 1)), .ref (ad (80 + 4 * q10.1.toNatClampNeg + 1)), .ref (ad (80 + 4 * q13.1.toNatClampNeg + 1)), .ref (ad 35)]) (st := []) dX9_goTo_113 calX7_isInTriangle wm1079 wm622 rfl rfl (Nat.le_of_ble_eq_true rfl) ⟨⟨by decide, by decide⟩, by decide, by decide⟩ (cmX7_isInTriangle hr hq16) (fun h hr => ?_)
      refine rw_if_eq (tgt := 219) dX9_goTo_116 (by decide) (fun c17 => ?_) (fun c17 => ?_)
      · rw [if_pos c17] at hf
        refine rw_sub [3, 4, 5, 6] rfl ?_
        exact t_jX9_goTo_219 (ad := ad) (G := G) (lX9_goTo_39 n) ih v5 q16.2 _ hr hf
      · rw [if_neg c17] at hf
        refine rw_aload_n dX9_goTo_119 3 rfl rfl ?_
        refine sg_34_4 hr dX9_goTo_120 fl365 ?_
        refine rw_aload_n dX9_goTo_123 3 rfl rfl ?_
        refine sg_34_6 hr dX9_goTo_124 fl367 ?_
        refine rw_iload dX9_goTo_127 6 rfl ?_
        obtain ⟨hi18, hf⟩ := grd hf
        refine ss_36 hr dX9_goTo_129 (inB_in hi18) (fun h hr => ?_)
        refine nmS hf hr (fun σ19 hr hf => ?_)
        refine rw_aload_n dX9_goTo_130 3 rfl rfl ?_
        refine sg_34_5 hr dX9_goTo_131 fl366 ?_
        refine rw_iconst (v := 3) dX9_goTo_134 (by decide) ?_
        refine rw_aload_n dX9_goTo_135 3 rfl rfl ?_
        refine sg_34_6 hr dX9_goTo_136 fl367 ?_
        refine rw_imul dX9_goTo_139 ?_
        refine rw_aload dX9_goTo_140 1 rfl ?_
        refine rw_aload dX9_goTo_142 0 rfl ?_
        refine rw_aload_n dX9_goTo_144 3 rfl rfl ?_
        refine sg_34_2 hr dX9_goTo_145 fl363 ?_
        obtain ⟨q20, hq20, hf⟩ := bnd hf
        refine kS_I (ad := ad) (As := [.ref (ad (80 + 4 * q10.1.toNatClampNeg + 1)), .ref (ad (80 + 4 * q13.1.toNatClampNeg + 1)), .ref (ad 35)]) (st := [.int (3 * (σ19.1 34 6)), .ref (ad 37)]) dX9_goTo_148 calX7_turn wm1080 wm573 rfl rfl (Nat.le_of_ble_eq_true rfl) ⟨⟨by decide, by decide⟩, by decide, by decide⟩ (cmX7_turn hr hq20) (fun h hr => ?_)
        refine rw_mabs dX9_goTo_151 wm1081 (by decide) (Nat.le_of_ble_eq_true rfl) (by decide) (by decide) ?_
        obtain ⟨hi21, hf⟩ := grd hf
        refine ss_37 hr dX9_goTo_154 (inB_in hi21) (fun h hr => ?_)
        refine nmS hf hr (fun σ22 hr hf => ?_)
        refine rw_aload_n dX9_goTo_155 3 rfl rfl ?_
        refine sg_34_5 hr dX9_goTo_156 fl366 ?_
        refine rw_iconst (v := 3) dX9_goTo_159 (by decide) ?_
        refine rw_aload_n dX9_goTo_160 3 rfl rfl ?_
        refine sg_34_6 hr dX9_goTo_161 fl367 ?_
        refine rw_imul dX9_goTo_164 ?_
        refine rw_iconst (v := 1) dX9_goTo_165 (by decide) ?_
        refine rw_iadd dX9_goTo_166 ?_
        refine rw_aload dX9_goTo_167 0 rfl ?_
        refine rw_aload dX9_goTo_169 2 rfl ?_
        refine rw_aload_n dX9_goTo_171 3 rfl rfl ?_
        refine sg_34_2 hr dX9_goTo_172 fl363 ?_
        obtain ⟨q23, hq23, hf⟩ := bnd hf
        refine kS_I (ad := ad) (As := [.ref (ad (80 + 4 * q13.1.toNatClampNeg + 1)), .ref (ad (80 + 4 * q7.1.toNatClampNeg + 1)), .ref (ad 35)]) (st := [.int ((3 * (σ22.1 34 6)) + 1), .ref (ad 37)]) dX9_goTo_175 calX7_turn wm1080 wm573 rfl rfl (Nat.le_of_ble_eq_true rfl) ⟨⟨by decide, by decide⟩, by decide, by decide⟩ (cmX7_turn hr hq23) (fun h hr => ?_)
        refine rw_mabs dX9_goTo_178 wm1081 (by decide) (Nat.le_of_ble_eq_true rfl) (by decide) (by decide) ?_
        obtain ⟨hi24, hf⟩ := grd hf
        refine ss_37 hr dX9_goTo_181 (inB_in hi24) (fun h hr => ?_)
        refine nmS hf hr (fun σ25 hr hf => ?_)
        refine rw_aload_n dX9_goTo_182 3 rfl rfl ?_
        refine sg_34_5 hr dX9_goTo_183 fl366 ?_
        refine rw_iconst (v := 3) dX9_goTo_186 (by decide) ?_
        refine rw_aload_n dX9_goTo_187 3 rfl rfl ?_
        refine sg_34_6 hr dX9_goTo_188 fl367 ?_
        refine rw_imul dX9_goTo_191 ?_
        refine rw_iconst (v := 2) dX9_goTo_192 (by decide) ?_
        refine rw_iadd dX9_goTo_193 ?_
        refine rw_aload dX9_goTo_194 2 rfl ?_
        refine rw_aload dX9_goTo_196 1 rfl ?_
        refine rw_aload_n dX9_goTo_198 3 rfl rfl ?_
        refine sg_34_2 hr dX9_goTo_199 fl363 ?_
        obtain ⟨q26, hq26, hf⟩ := bnd hf
        refine kS_I (ad := ad) (As := [.ref (ad (80 + 4 * q7.1.toNatClampNeg + 1)), .ref (ad (80 + 4 * q10.1.toNatClampNeg + 1)), .ref (ad 35)]) (st := [.int ((3 * (σ25.1 34 6)) + 2), .ref (ad 37)]) dX9_goTo_202 calX7_turn wm1080 wm573 rfl rfl (Nat.le_of_ble_eq_true rfl) ⟨⟨by decide, by decide⟩, by decide, by decide⟩ (cmX7_turn hr hq26) (fun h hr => ?_)
        refine rw_mabs dX9_goTo_205 wm1081 (by decide) (Nat.le_of_ble_eq_true rfl) (by decide) (by decide) ?_
        obtain ⟨hi27, hf⟩ := grd hf
        refine ss_37 hr dX9_goTo_208 (inB_in hi27) (fun h hr => ?_)
        refine nmS hf hr (fun σ28 hr hf => ?_)
        refine rw_aload_n dX9_goTo_209 3 rfl rfl ?_
        refine rw_dup dX9_goTo_210 rfl ?_
        refine sg_34_6 hr dX9_goTo_211 fl367 ?_
        refine rw_iconst (v := 1) dX9_goTo_214 (by decide) ?_
        refine rw_iadd dX9_goTo_215 ?_
        refine sp_34_6 hr dX9_goTo_216 fl367 (fun h hr => ?_)
        refine nmS hf hr (fun σ29 hr hf => ?_)
        refine rw_sub [3, 4, 5, 6] rfl ?_
        exact t_jX9_goTo_219 (ad := ad) (G := G) (lX9_goTo_39 n) ih v5 σ29 _ hr hf
def jX9_goTo_28  (s0 : Int32) (σ : rS) : Option (Unit × rS) := vS (uI σ 34 3 s0) fun σ4 => vS (uI σ4 34 6 0) fun σ5 => lX9_goTo_39 1000 0 σ5
set_option maxHeartbeats 4000000 in
theorem t_jX9_goTo_28 {G : rG} {ad : Nat → Nat} {o : (Unit × rS)}   (s0 : Int32) (σ : rS) (h : rH) (hr : Rep G ad σ h) (hf : jX9_goTo_28  s0 σ = some o) : RW G mX9_goTo (rm 2 0 0) (qV G ad o) xN 0 0 28 [(0, .ref (ad 34)), (3, .ref (ad 1)), (4, .ref (ad 10))] [.int s0, .ref (ad 34)] h := by
  unfold jX9_goTo_28 at hf
  refine sp_34_3 hr dX9_goTo_28 fl364 (fun h hr => ?_)
  refine nmS hf hr (fun σ4 hr hf => ?_)
  refine rw_aload_n dX9_goTo_31 0 rfl rfl ?_
  refine rw_iconst (v := 0) dX9_goTo_32 (by decide) ?_
  refine sp_34_6 hr dX9_goTo_33 fl367 (fun h hr => ?_)
  refine nmS hf hr (fun σ5 hr hf => ?_)
  refine rw_iconst (v := 0) dX9_goTo_36 (by decide) ?_
  refine rw_istore (lv2 := [(5, .int 0), (0, .ref (ad 34)), (3, .ref (ad 1)), (4, .ref (ad 10))]) dX9_goTo_37 (by decide) rfl ?_
  refine rw_sub [1, 2, 3, 0] rfl ?_
  exact t_lX9_goTo_39 (ad := ad) (G := G)  1000 0 σ5 _ hr hf
def fX9_goTo (a0 : Int32) (a1 : Int32) (σ : rS) : Option (Unit × rS) := (fX7_moveTo 35 a0 a1 σ).bind fun q1 => if (q1.2.1 1 1) = 1 then jX9_goTo_28 0 q1.2 else (fX2_numberAt a0 a1 q1.2).bind fun q3 => jX9_goTo_28 q3.1 q3.2
set_option maxHeartbeats 4000000 in
theorem cmX9_goTo {G : rG} {ad : Nat → Nat} {a0 : Int32} {a1 : Int32} {σ : rS} {h : rH} {o : (Unit × rS)} (hr : Rep G ad σ h) (hf : fX9_goTo a0 a1 σ = some o) : rMT G mX9_goTo (rm 2 0 0) [.ref (ad 34), .int a0, .int a1, .ref (ad 1), .ref (ad 10)] h (qV G ad o) xN := by
  unfold fX9_goTo at hf
  refine rw_met (by decide +kernel) rfl (Nat.le_of_ble_eq_true rfl) ?_
  show RW G _ _ _ _ 0 0 0 [(0, .ref (ad 34)), (1, .int a0), (2, .int a1), (3, .ref (ad 1)), (4, .ref (ad 10))] [] h
  refine rw_aload_n dX9_goTo_0 0 rfl rfl ?_
  refine sg_34_2 hr dX9_goTo_1 fl363 ?_
  refine rw_iload_n dX9_goTo_4 1 rfl rfl ?_
  refine rw_iload_n dX9_goTo_5 2 rfl rfl ?_
  obtain ⟨q1, hq1, hf⟩ := bnd hf
  refine kV_V (ad := ad) (As := [.int a0, .int a1]) (st := []) dX9_goTo_6 calX7_moveTo wm1076 wm504 wm505 rfl rfl (rc_35 hr) (ci := 7) (by decide) rfl rfl (Nat.le_of_ble_eq_true rfl) ⟨⟨by decide, by decide⟩, by decide, by decide⟩ (cmX7_moveTo hr hq1) (fun h hr => ?_)
  refine rw_aload_n dX9_goTo_9 0 rfl rfl ?_
  refine rw_aload_n dX9_goTo_10 3 rfl rfl ?_
  refine sg_1_1 hr dX9_goTo_11 fl170 ?_
  refine rw_iconst (v := 1) dX9_goTo_14 (by decide) ?_
  refine rw_icmp_ne (tgt := 22) dX9_goTo_15 (by decide) (fun c2 => ?_) (fun c2 => ?_)
  · rw [if_neg c2] at hf
    refine rw_aload_n dX9_goTo_22 3 rfl rfl ?_
    refine rw_iload_n dX9_goTo_23 1 rfl rfl ?_
    refine rw_iload_n dX9_goTo_24 2 rfl rfl ?_
    obtain ⟨q3, hq3, hf⟩ := bnd hf
    refine kV_I (ad := ad) (As := [.int a0, .int a1]) (st := [.ref (ad 34)]) dX9_goTo_25 calX2_numberAt wm1077 wm735 wm736 rfl rfl (rc_1 hr) (ci := 3) (by decide) rfl rfl (Nat.le_of_ble_eq_true rfl) ⟨⟨by decide, by decide⟩, by decide, by decide⟩ (cmX2_numberAt hr hq3) (fun h hr => ?_)
    refine rw_sub [0, 3, 4] rfl ?_
    exact t_jX9_goTo_28 (ad := ad) (G := G)  q3.1 q3.2 _ hr hf
  · rw [if_pos c2] at hf
    refine rw_iconst (v := 0) dX9_goTo_18 (by decide) ?_
    refine rw_goto (tgt := 28) dX9_goTo_19 (by decide) ?_
    refine rw_sub [0, 3, 4] rfl ?_
    exact t_jX9_goTo_28 (ad := ad) (G := G)  0 q1.2 _ hr hf
def jX10_find_32 (k2 : Int32 → Int32 → Int32 → rS → Option (Int32 × rS)) (v1 : Int32) (v2 : Int32) (v3 : Int32) (σ : rS) : Option (Int32 × rS) := vI (v3 + 1) fun x6 => k2 v1 v2 x6 σ
set_option maxHeartbeats 4000000 in
theorem t_jX10_find_32 {G : rG} {ad : Nat → Nat} {o : (Int32 × rS)} (k2 : Int32 → Int32 → Int32 → rS → Option (Int32 × rS)) (hk2 : ∀ (v1 : Int32) (v2 : Int32) (v3 : Int32) (σ : rS) (h : rH), Rep G ad σ h → k2 v1 v2 v3 σ = some o → RW G mX10_find (rm 0 0 0) (qI G ad o) xN 0 0 2 [(0, .ref (ad 6)), (1, .int v1), (2, .int v2), (3, .int v3)] [] h) (v1 : Int32) (v2 : Int32) (v3 : Int32) (σ : rS) (h : rH) (hr : Rep G ad σ h) (hf : jX10_find_32 k2 v1 v2 v3 σ = some o) : RW G mX10_find (rm 0 0 0) (qI G ad o) xN 0 0 32 [(0, .ref (ad 6)), (1, .int v1), (2, .int v2), (3, .int v3)] [] h := by
  unfold jX10_find_32 at hf
  refine rw_iinc (v := v3 + 1) (lv2 := [(3, .int (v3 + 1)), (0, .ref (ad 6)), (1, .int v1), (2, .int v2)]) dX10_find_32 3 rfl rfl (by decide) rfl ?_
  refine nmL hf (fun x6 hf => ?_)
  refine rw_goto (tgt := 2) dX10_find_35 (by decide) ?_
  refine rw_sub [1, 2, 3, 0] rfl ?_
  exact hk2 v1 v2 x6 σ _ hr hf
def lX10_find_2  : Nat → Int32 → Int32 → Int32 → rS → Option (Int32 × rS)
  | 0, _, _, _, _ => none
  | n + 1, v1, v2, v3, σ => if (σ.1 6 3) ≤ v3 then some (((-1)), σ) else if inB v3 60 then (if (σ.2.2.1 7 v3.toNatClampNeg) = v1 then if inB v3 60 then (if (σ.2.2.1 8 v3.toNatClampNeg) = v2 then some (v3, σ) else jX10_find_32 (lX10_find_2 n) v1 v2 v3 σ) else none else jX10_find_32 (lX10_find_2 n) v1 v2 v3 σ) else none
set_option maxHeartbeats 4000000 in
theorem t_lX10_find_2 {G : rG} {ad : Nat → Nat} {o : (Int32 × rS)}   : ∀ (n : Nat) (v1 : Int32) (v2 : Int32) (v3 : Int32) (σ : rS) (h : rH), Rep G ad σ h → lX10_find_2  n v1 v2 v3 σ = some o → RW G mX10_find (rm 0 0 0) (qI G ad o) xN 0 0 2 [(0, .ref (ad 6)), (1, .int v1), (2, .int v2), (3, .int v3)] [] h := by
  intro n
  induction n with
  | zero =>
    intro v1 v2 v3 σ h hr hf
    rw [lX10_find_2] at hf
    cases hf
  | succ n ih =>
    intro v1 v2 v3 σ h hr hf
    rw [lX10_find_2] at hf
    refine rw_iload_n dX10_find_2 3 rfl rfl ?_
    refine rw_aload_n dX10_find_3 0 rfl rfl ?_
    refine sg_6_3 hr dX10_find_4 fl211 ?_
    refine rw_icmp_ge (tgt := 38) dX10_find_7 (by decide) (fun c1 => ?_) (fun c1 => ?_)
    · rw [if_pos c1] at hf
      refine rw_iconst (v := (-1)) dX10_find_38 (by decide) ?_
      replace hf := Option.some.inj hf
      subst hf
      exact rw_ireturn dX10_find_39 rfl ⟨rfl, hr⟩ (by decide) (by decide)
    · rw [if_neg c1] at hf
      refine rw_aload_n dX10_find_10 0 rfl rfl ?_
      refine sg_6_0 hr dX10_find_11 fl208 ?_
      refine rw_iload_n dX10_find_14 3 rfl rfl ?_
      obtain ⟨hi2, hf⟩ := grd hf
      refine sl_7 hr dX10_find_15 (inB_in hi2) ?_
      refine rw_iload_n dX10_find_16 1 rfl rfl ?_
      refine rw_icmp_ne (tgt := 32) dX10_find_17 (by decide) (fun c3 => ?_) (fun c3 => ?_)
      · rw [if_neg c3] at hf
        exact t_jX10_find_32 (ad := ad) (G := G) (lX10_find_2 n) ih v1 v2 v3 σ _ hr hf
      · rw [if_pos c3] at hf
        refine rw_aload_n dX10_find_20 0 rfl rfl ?_
        refine sg_6_1 hr dX10_find_21 fl209 ?_
        refine rw_iload_n dX10_find_24 3 rfl rfl ?_
        obtain ⟨hi4, hf⟩ := grd hf
        refine sl_8 hr dX10_find_25 (inB_in hi4) ?_
        refine rw_iload_n dX10_find_26 2 rfl rfl ?_
        refine rw_icmp_ne (tgt := 32) dX10_find_27 (by decide) (fun c5 => ?_) (fun c5 => ?_)
        · rw [if_neg c5] at hf
          exact t_jX10_find_32 (ad := ad) (G := G) (lX10_find_2 n) ih v1 v2 v3 σ _ hr hf
        · rw [if_pos c5] at hf
          refine rw_iload_n dX10_find_30 3 rfl rfl ?_
          replace hf := Option.some.inj hf
          subst hf
          exact rw_ireturn dX10_find_31 rfl ⟨rfl, hr⟩ (by decide) (by decide)
def fX10_find (a0 : Int32) (a1 : Int32) (σ : rS) : Option (Int32 × rS) := lX10_find_2 1000 a0 a1 0 σ
set_option maxHeartbeats 4000000 in
theorem cmX10_find {G : rG} {ad : Nat → Nat} {a0 : Int32} {a1 : Int32} {σ : rS} {h : rH} {o : (Int32 × rS)} (hr : Rep G ad σ h) (hf : fX10_find a0 a1 σ = some o) : rMT G mX10_find (rm 0 0 0) [.ref (ad 6), .int a0, .int a1] h (qI G ad o) xN := by
  unfold fX10_find at hf
  refine rw_met (by decide +kernel) rfl (Nat.le_of_ble_eq_true rfl) ?_
  show RW G _ _ _ _ 0 0 0 [(0, .ref (ad 6)), (1, .int a0), (2, .int a1)] [] h
  refine rw_iconst (v := 0) dX10_find_0 (by decide) ?_
  refine rw_istore_n (lv2 := [(3, .int 0), (0, .ref (ad 6)), (1, .int a0), (2, .int a1)]) dX10_find_1 rfl (by decide) rfl ?_
  refine rw_sub [1, 2, 3, 0] rfl ?_
  exact t_lX10_find_2 (ad := ad) (G := G)  1000 a0 a1 0 σ _ hr hf
def jX10_levelIn_23  (s0 : Int32) (σ : rS) : Option (Int32 × rS) := some (s0, σ)
set_option maxHeartbeats 4000000 in
theorem t_jX10_levelIn_23 {G : rG} {ad : Nat → Nat} {o : (Int32 × rS)}   (s0 : Int32) (σ : rS) (h : rH) (hr : Rep G ad σ h) (hf : jX10_levelIn_23  s0 σ = some o) : RW G mX10_levelIn (rm 1 0 0) (qI G ad o) xN 0 0 23 [] [.int s0] h := by
  unfold jX10_levelIn_23 at hf
  replace hf := Option.some.inj hf
  subst hf
  exact rw_ireturn dX10_levelIn_23 rfl ⟨rfl, hr⟩ (by decide) (by decide)
def fX10_levelIn (a0 : Int32) (a1 : Int32) (σ : rS) : Option (Int32 × rS) := (fX10_find a1 a0 σ).bind fun q1 => vI q1.1 fun x2 => if x2 = ((-1)) then jX10_levelIn_23 ((-1000000)) q1.2 else if inB x2 60 then jX10_levelIn_23 (q1.2.2.2.1 9 x2.toNatClampNeg) q1.2 else none
set_option maxHeartbeats 4000000 in
theorem cmX10_levelIn {G : rG} {ad : Nat → Nat} {a0 : Int32} {a1 : Int32} {σ : rS} {h : rH} {o : (Int32 × rS)} (hr : Rep G ad σ h) (hf : fX10_levelIn a0 a1 σ = some o) : rMT G mX10_levelIn (rm 1 0 0) [.ref (ad 6), .int a0, .int a1] h (qI G ad o) xN := by
  unfold fX10_levelIn at hf
  refine rw_met (by decide +kernel) rfl (Nat.le_of_ble_eq_true rfl) ?_
  show RW G _ _ _ _ 0 0 0 [(0, .ref (ad 6)), (1, .int a0), (2, .int a1)] [] h
  refine rw_aload_n dX10_levelIn_0 0 rfl rfl ?_
  refine rw_iload_n dX10_levelIn_1 2 rfl rfl ?_
  refine rw_iload_n dX10_levelIn_2 1 rfl rfl ?_
  obtain ⟨q1, hq1, hf⟩ := bnd hf
  refine kV_I (ad := ad) (As := [.int a1, .int a0]) (st := []) dX10_levelIn_3 calX10_find wm531 wm533 wm0 rfl rfl (rc_6 hr) (ci := 10) (by decide) rfl rfl (Nat.le_of_ble_eq_true rfl) ⟨⟨by decide, by decide⟩, by decide, by decide⟩ (cmX10_find hr hq1) (fun h hr => ?_)
  refine nmI hf (fun x2 hf => ?_)
  refine rw_istore_n (lv2 := [(3, .int x2), (0, .ref (ad 6)), (1, .int a0), (2, .int a1)]) dX10_levelIn_6 rfl (by decide) rfl ?_
  refine rw_iload_n dX10_levelIn_7 0 rfl rfl ?_
  refine rw_iconst (v := (-1)) dX10_levelIn_8 (by decide) ?_
  refine rw_icmp_ne (tgt := 17) dX10_levelIn_9 (by decide) (fun c3 => ?_) (fun c3 => ?_)
  · rw [if_neg c3] at hf
    refine rw_aload_n dX10_levelIn_17 1 rfl rfl ?_
    refine sg_6_2 hr dX10_levelIn_18 fl210 ?_
    refine rw_iload_n dX10_levelIn_21 0 rfl rfl ?_
    obtain ⟨hi4, hf⟩ := grd hf
    refine sl_9 hr dX10_levelIn_22 (inB_in hi4) ?_
    refine rw_sub [] rfl ?_
    exact t_jX10_levelIn_23 (ad := ad) (G := G)  (q1.2.2.2.1 9 x2.toNatClampNeg) q1.2 _ hr hf
  · rw [if_pos c3] at hf
    refine rw_ldc (v := (-1000000)) dX10_levelIn_12 wm1104 ?_
    refine rw_goto (tgt := 23) dX10_levelIn_14 (by decide) ?_
    refine rw_sub [] rfl ?_
    exact t_jX10_levelIn_23 (ad := ad) (G := G)  ((-1000000)) q1.2 _ hr hf
/-- the two kinds of levels, by the object's number -/
def flev (n : Nat) (a b : Int32) (σ : rS) : Option (Int32 × rS) := if n = 25 then fX0_levelIn a b σ else if n = 6 then fX10_levelIn a b σ else none
theorem kF_lev {G : rG} {ad : Nat → Nat} {σ : rS} {mi : rMI} {R : Room} {Q : Option Value → rH → Prop} {X : String → rH → Prop} {cells slots pc : Nat} {lv : List (Nat × Value)} {st : List Value} {h : rH} {idx cnt n : Nat} {x y : Int32} {o : Int32 × rS} (hr : Rep G ad σ h) (hd : decode mi.2.1 pc = .ok (.invokeinterface idx cnt, 5)) (hw : Cond.methodLink mi.1.cls idx levX ∈ rTB) (hsum : (st.map fun v => v.category).sum ≤ 8)
    (hR : rFit R (rm 1 0 0) 12 cells slots) (hf : flev n x y σ = some o) (kk : ∀ h2, Rep G ad o.2 h2 → RW G mi R Q X cells slots (pc + 5) lv (.int o.1 :: st) h2) : RW G mi R Q X cells slots pc lv (.int y :: .int x :: .ref (ad n) :: st) h := fun p l e s m args below meth c H locs ls C hl hH hS => by
  have hK := C.2.2.2.2.2.2.2.2.2.2
  have main : ∀ (mj : rMI) (b ci : Nat) (q : vw_C), rCal mj 2 → mj.2.2.1 ≤ 12 → Cond.instanceMethod mj.1 ∈ rTB → Cond.selects mj.1.cls levX mj.1 ∈ rTB → va_Fw mj.1.cls levX mj.1 s → (∃ fs, h b = .inr (ci, fs)) → ci < 13 → rCl[ci]? = some q → q.1 = mj.1.cls → rMT G mj (rm 1 0 0) [.ref b, .int x, .int y] h (qI G ad o) xN →
      W p l e R s m args below meth c H locs cells slots (vx_MQ below (rQ G Q) (rX G X) args s R.cells R.slots (rA G)) (F0 m pc ls (.int y :: .int x :: .ref b :: st)) := by
    intro mj b ci q hcal hml hw2 hw3 hF hc hci hq hqn hM
    obtain ⟨fs, hc⟩ := hc
    have hrecv := rP.recv C hH hc hci hq
    have hat := (hK.1.1 ci q hq).2
    rw [hqn] at hrecv hat
    have hr := va_runF (l := l) (below := below) (meth := meth) (e := e) (locs := locs) (cells := cells) (slots := slots) (rest := st) (As := [.int x, .int y]) (g := F0 m pc ls (.int y :: .int x :: .ref b :: st)) (R := R) (n := 2) (C := mj.1.cls) (index := idx) (x := levX) (bytes := mj.2.1) (maxL := mj.2.2.1) (ret := mj.2.2.2.1) hat ⟨C.1, C.2.1, C.2.2.2.1, C.2.2.2.2.1, C.2.2.2.2.2.1⟩ (rMT.met hM C.2.2.2.2.2.2.2.2.2.1)
      (va_cwF 2 C.2.2.2.2.2.1 (good_in (fun w z => by
        rcases List.mem_append.mp z with z | z
        · simp only [List.mem_cons, List.not_mem_nil, or_false] at z
          rcases z with rfl | rfl | rfl | rfl
          · exact hw
          · exact hw3
          · exact hw2
          · exact hcal.2.2.2
        · exact rWs.in hcal.2.1 w z)) (rWs.code hcal.1) rfl rfl hF (by decide) ⟨hR.1.1, Nat.le_trans (by omega) hR.1.2⟩)
      ⟨rP.blind, hrecv, fun U hU hW => rP.at C hH hS hU hW⟩ rfl rfl hl.1 rfl (lv_room hsum) hd hR.2
    exact rw_run5 hr hS (fun v h2 H1 locs1 z1 z2 z3 => by
      obtain ⟨rfl, z1⟩ := z1
      exact kk h2 z1 p l e s m args below meth c H1 locs1 ls C hl z2 z3)
  unfold flev at hf
  by_cases h1 : n = 25
  · rw [if_pos h1] at hf
    subst h1
    exact main mX0_levelIn (ad 25) 1 _ calX0_levelIn (by decide) wm1094 wm1092 hK.2.2.1.1 (rc_25 hr) (by decide) rfl rfl (cmX0_levelIn hr hf)
  · rw [if_neg h1] at hf
    by_cases h2 : n = 6
    · rw [if_pos h2] at hf
      subst h2
      exact main mX10_levelIn (ad 6) 10 _ calX10_levelIn (by decide) wm1101 wm1099 hK.2.2.1.2 (rc_6 hr) (by decide) rfl rfl (cmX10_levelIn hr hf)
    · rw [if_neg h2] at hf; cases hf
def jX9_hasLevel_14  (s0 : Int32) (σ : rS) : Option (Int32 × rS) := if s0 = 0 ∨ s0 = 1 then some (s0, σ) else none
set_option maxHeartbeats 4000000 in
theorem t_jX9_hasLevel_14 {G : rG} {ad : Nat → Nat} {o : (Int32 × rS)}   (s0 : Int32) (σ : rS) (h : rH) (hr : Rep G ad σ h) (hf : jX9_hasLevel_14  s0 σ = some o) : RW G mX9_hasLevel (rm 0 0 0) (qI G ad o) xN 0 0 14 [] [.int s0] h := by
  unfold jX9_hasLevel_14 at hf
  obtain ⟨hz2, hf⟩ := grd hf
  replace hf := Option.some.inj hf
  subst hf
  exact rw_zreturn dX9_hasLevel_14 rfl (nar_z hz2) ⟨rfl, hr⟩ (by decide) (by decide)
def fX9_hasLevel  (σ : rS) : Option (Int32 × rS) := if (lg_cmp (σ.2.1 34 1) 0) = 0 then jX9_hasLevel_14 0 σ else jX9_hasLevel_14 1 σ
set_option maxHeartbeats 4000000 in
theorem cmX9_hasLevel {G : rG} {ad : Nat → Nat}  {σ : rS} {h : rH} {o : (Int32 × rS)} (hr : Rep G ad σ h) (hf : fX9_hasLevel  σ = some o) : rMT G mX9_hasLevel (rm 0 0 0) [.ref (ad 34)] h (qI G ad o) xN := by
  unfold fX9_hasLevel at hf
  refine rw_met (by decide +kernel) rfl (Nat.le_of_ble_eq_true rfl) ?_
  show RW G _ _ _ _ 0 0 0 [(0, .ref (ad 34))] [] h
  refine rw_aload_n dX9_hasLevel_0 0 rfl rfl ?_
  refine sg_34_1 hr dX9_hasLevel_1 fl361 ?_
  refine rw_lconst (v := 0) dX9_hasLevel_4 (by decide) ?_
  refine rw_lcmp dX9_hasLevel_5 ?_
  refine rw_if_eq (tgt := 13) dX9_hasLevel_6 (by decide) (fun c1 => ?_) (fun c1 => ?_)
  · rw [if_pos c1] at hf
    refine rw_iconst (v := 0) dX9_hasLevel_13 (by decide) ?_
    refine rw_sub [] rfl ?_
    exact t_jX9_hasLevel_14 (ad := ad) (G := G)  0 σ _ hr hf
  · rw [if_neg c1] at hf
    refine rw_iconst (v := 1) dX9_hasLevel_9 (by decide) ?_
    refine rw_goto (tgt := 14) dX9_hasLevel_10 (by decide) ?_
    refine rw_sub [] rfl ?_
    exact t_jX9_hasLevel_14 (ad := ad) (G := G)  1 σ _ hr hf
def jX9_commonDivisor_45  (v4 : Int64) (σ : rS) : Option (Int64 × rS) := some (v4, σ)
set_option maxHeartbeats 4000000 in
theorem t_jX9_commonDivisor_45 {G : rG} {ad : Nat → Nat} {o : (Int64 × rS)}   (v4 : Int64) (σ : rS) (h : rH) (hr : Rep G ad σ h) (hf : jX9_commonDivisor_45  v4 σ = some o) : RW G mX9_commonDivisor (rm 0 0 0) (qJ G ad o) xN 0 0 45 [(4, .long v4)] [] h := by
  unfold jX9_commonDivisor_45 at hf
  refine rw_lload dX9_commonDivisor_45 0 rfl ?_
  replace hf := Option.some.inj hf
  subst hf
  exact rw_lreturn dX9_commonDivisor_47 rfl ⟨rfl, hr⟩ (by decide) (by decide)
def lX9_commonDivisor_9  : Nat → Int64 → Int64 → Int32 → rS → Option (Int64 × rS)
  | 0, _, _, _, _ => none
  | n + 1, v4, v6, v8, σ => if 128 ≤ v8 then jX9_commonDivisor_45 v4 σ else if (lg_cmp v6 0) = 0 then jX9_commonDivisor_45 v4 σ else if ¬ v6 = 0 then vJ (v4 - v4 / v6 * v6) fun x4 => vI (v8 + 1) fun x5 => (lX9_commonDivisor_9 n) v6 x4 x5 σ else none
set_option maxHeartbeats 4000000 in
theorem t_lX9_commonDivisor_9 {G : rG} {ad : Nat → Nat} {o : (Int64 × rS)}   : ∀ (n : Nat) (v4 : Int64) (v6 : Int64) (v8 : Int32) (σ : rS) (h : rH), Rep G ad σ h → lX9_commonDivisor_9  n v4 v6 v8 σ = some o → RW G mX9_commonDivisor (rm 0 0 0) (qJ G ad o) xN 0 0 9 [(4, .long v4), (6, .long v6), (8, .int v8)] [] h := by
  intro n
  induction n with
  | zero =>
    intro v4 v6 v8 σ h hr hf
    rw [lX9_commonDivisor_9] at hf
    cases hf
  | succ n ih =>
    intro v4 v6 v8 σ h hr hf
    rw [lX9_commonDivisor_9] at hf
    refine rw_iload dX9_commonDivisor_9 2 rfl ?_
    refine rw_sipush (v := 128) dX9_commonDivisor_11 (by decide) ?_
    refine rw_icmp_ge (tgt := 45) dX9_commonDivisor_14 (by decide) (fun c1 => ?_) (fun c1 => ?_)
    · rw [if_pos c1] at hf
      refine rw_sub [0] rfl ?_
      exact t_jX9_commonDivisor_45 (ad := ad) (G := G)  v4 σ _ hr hf
    · rw [if_neg c1] at hf
      refine rw_lload dX9_commonDivisor_17 1 rfl ?_
      refine rw_lconst (v := 0) dX9_commonDivisor_19 (by decide) ?_
      refine rw_lcmp dX9_commonDivisor_20 ?_
      refine rw_if_eq (tgt := 45) dX9_commonDivisor_21 (by decide) (fun c2 => ?_) (fun c2 => ?_)
      · rw [if_pos c2] at hf
        refine rw_sub [0] rfl ?_
        exact t_jX9_commonDivisor_45 (ad := ad) (G := G)  v4 σ _ hr hf
      · rw [if_neg c2] at hf
        refine rw_lload dX9_commonDivisor_24 0 rfl ?_
        refine rw_lload dX9_commonDivisor_26 1 rfl ?_
        obtain ⟨hz3, hf⟩ := grd hf
        refine rw_lrem dX9_commonDivisor_28 hz3 ?_
        refine nmJ hf (fun x4 hf => ?_)
        refine rw_lstore (lv2 := [(9, .long x4), (4, .long v4), (6, .long v6), (8, .int v8)]) dX9_commonDivisor_29 (by decide) rfl ?_
        refine rw_lload dX9_commonDivisor_31 2 rfl ?_
        refine rw_lstore (lv2 := [(4, .long v6), (9, .long x4), (6, .long v6), (8, .int v8)]) dX9_commonDivisor_33 (by decide) rfl ?_
        refine rw_lload dX9_commonDivisor_35 1 rfl ?_
        refine rw_lstore (lv2 := [(6, .long x4), (4, .long v6), (9, .long x4), (8, .int v8)]) dX9_commonDivisor_37 (by decide) rfl ?_
        refine rw_iinc (v := v8 + 1) (lv2 := [(8, .int (v8 + 1)), (6, .long x4), (4, .long v6), (9, .long x4)]) dX9_commonDivisor_39 3 rfl rfl (by decide) rfl ?_
        refine nmL hf (fun x5 hf => ?_)
        refine rw_goto (tgt := 9) dX9_commonDivisor_42 (by decide) ?_
        refine rw_sub [2, 1, 0] rfl ?_
        exact ih v6 x4 x5 σ _ hr hf
def fX9_commonDivisor (a0 : Int64) (a1 : Int64) (σ : rS) : Option (Int64 × rS) := lX9_commonDivisor_9 1000 a0 a1 0 σ
set_option maxHeartbeats 4000000 in
theorem cmX9_commonDivisor {G : rG} {ad : Nat → Nat} {a0 : Int64} {a1 : Int64} {σ : rS} {h : rH} {o : (Int64 × rS)} (hr : Rep G ad σ h) (hf : fX9_commonDivisor a0 a1 σ = some o) : rMT G mX9_commonDivisor (rm 0 0 0) [.long a0, .long a1] h (qJ G ad o) xN := by
  unfold fX9_commonDivisor at hf
  refine rw_met (by decide +kernel) rfl (Nat.le_of_ble_eq_true rfl) ?_
  show RW G _ _ _ _ 0 0 0 [(0, .long a0), (2, .long a1)] [] h
  refine rw_lload_n dX9_commonDivisor_0 0 rfl rfl ?_
  refine rw_lstore (lv2 := [(4, .long a0), (0, .long a0), (2, .long a1)]) dX9_commonDivisor_1 (by decide) rfl ?_
  refine rw_lload_n dX9_commonDivisor_3 2 rfl rfl ?_
  refine rw_lstore (lv2 := [(6, .long a1), (4, .long a0), (0, .long a0), (2, .long a1)]) dX9_commonDivisor_4 (by decide) rfl ?_
  refine rw_iconst (v := 0) dX9_commonDivisor_6 (by decide) ?_
  refine rw_istore (lv2 := [(8, .int 0), (6, .long a1), (4, .long a0), (0, .long a0), (2, .long a1)]) dX9_commonDivisor_7 (by decide) rfl ?_
  refine rw_sub [2, 1, 0] rfl ?_
  exact t_lX9_commonDivisor_9 (ad := ad) (G := G)  1000 a0 a1 0 σ _ hr hf
def jX9_findOnPlane_123   (σ : rS) : Option (Unit × rS) := some ((), σ)
set_option maxHeartbeats 4000000 in
theorem t_jX9_findOnPlane_123 {G : rG} {ad : Nat → Nat} {o : (Unit × rS)}    (σ : rS) (h : rH) (hr : Rep G ad σ h) (hf : jX9_findOnPlane_123   σ = some o) : RW G mX9_findOnPlane (rm 2 0 0) (qV G ad o) xN 0 0 123 [] [] h := by
  unfold jX9_findOnPlane_123 at hf
  replace hf := Option.some.inj hf
  subst hf
  exact rw_return dX9_findOnPlane_123 rfl ⟨rfl, hr⟩ (by decide) (by decide)
def lX9_findOnPlane_6  : Nat → Nat → Int32 → Int32 → Int64 → Int32 → rS → Option (Unit × rS)
  | 0, _, _, _, _, _, _ => none
  | n + 1, v1, v2, v4, v5, v7, σ => if 3 ≤ v7 then if inB v4 27 then if inB (σ.2.2.1 36 v4.toNatClampNeg) 27 then vI (σ.2.2.1 14 (σ.2.2.1 36 v4.toNatClampNeg).toNatClampNeg) fun x4 => (fX9_commonDivisor (if 0 < v5 then v5 else -v5) x4.toInt64 σ).bind fun q5 => vJ q5.1 fun x6 => (if (lg_cmp x6 0) ≤ 0 then jX9_findOnPlane_123 q5.2 else if ¬ x6 = 0 then vS (uL q5.2 34 0 (v5 / x6)) fun σ9 => if ¬ x6 = 0 then vS (uL σ9 34 1 (x4.toInt64 / x6)) fun σ11 => jX9_findOnPlane_123 σ11 else none else none) else none else none else if inB v4 27 then (fX6_cornerOf (σ.2.2.1 36 v4.toNatClampNeg) v7 σ).bind fun q13 => (flev v1 v2 q13.1 q13.2).bind fun q14 => vI q14.1 fun x15 => (if x15 = ((-1000000)) then some ((), q14.2) else if inB ((3 * v4) + v7) 81 then vJ (v5 + (((q14.2.2.2.1 37 ((3 * v4) + v7).toNatClampNeg).toInt64) * x15.toInt64)) fun x18 => vI (v7 + 1) fun x19 => (lX9_findOnPlane_6 n) v1 v2 v4 x18 x19 q14.2 else none) else none
set_option maxHeartbeats 4000000 in
theorem t_lX9_findOnPlane_6 {G : rG} {ad : Nat → Nat} {o : (Unit × rS)}   : ∀ (n : Nat) (v1 : Nat) (v2 : Int32) (v4 : Int32) (v5 : Int64) (v7 : Int32) (σ : rS) (h : rH), Rep G ad σ h → lX9_findOnPlane_6  n v1 v2 v4 v5 v7 σ = some o → RW G mX9_findOnPlane (rm 2 0 0) (qV G ad o) xN 0 0 6 [(0, .ref (ad 34)), (1, .ref (ad v1)), (2, .int v2), (3, .ref (ad 10)), (4, .int v4), (5, .long v5), (7, .int v7)] [] h := by
  intro n
  induction n with
  | zero =>
    intro v1 v2 v4 v5 v7 σ h hr hf
    rw [lX9_findOnPlane_6] at hf
    cases hf
  | succ n ih =>
    intro v1 v2 v4 v5 v7 σ h hr hf
    rw [lX9_findOnPlane_6] at hf
    refine rw_iload dX9_findOnPlane_6 6 rfl ?_
    refine rw_iconst (v := 3) dX9_findOnPlane_8 (by decide) ?_
    refine rw_icmp_ge (tgt := 70) dX9_findOnPlane_9 (by decide) (fun c1 => ?_) (fun c1 => ?_)
    · rw [if_pos c1] at hf
      refine rw_aload_n dX9_findOnPlane_70 3 rfl rfl ?_
      refine sg_10_3 hr dX9_findOnPlane_71 fl239 ?_
      refine rw_aload_n dX9_findOnPlane_74 0 rfl rfl ?_
      refine sg_34_4 hr dX9_findOnPlane_75 fl365 ?_
      refine rw_iload dX9_findOnPlane_78 4 rfl ?_
      obtain ⟨hi2, hf⟩ := grd hf
      refine sl_36 hr dX9_findOnPlane_80 (inB_in hi2) ?_
      obtain ⟨hi3, hf⟩ := grd hf
      refine sl_14 hr dX9_findOnPlane_81 (inB_in hi3) ?_
      refine nmI hf (fun x4 hf => ?_)
      refine rw_istore (lv2 := [(7, .int x4), (0, .ref (ad 34)), (1, .ref (ad v1)), (2, .int v2), (3, .ref (ad 10)), (4, .int v4), (5, .long v5)]) dX9_findOnPlane_82 (by decide) rfl ?_
      refine rw_lload dX9_findOnPlane_84 6 rfl ?_
      refine rw_mabs_long dX9_findOnPlane_86 wm1113 (by decide) (Nat.le_of_ble_eq_true rfl) (by decide) (by decide) ?_
      refine rw_iload dX9_findOnPlane_89 0 rfl ?_
      refine rw_i2l dX9_findOnPlane_91 ?_
      obtain ⟨q5, hq5, hf⟩ := bnd hf
      refine kS_J (ad := ad) (As := [.long (if 0 < v5 then v5 else -v5), .long x4.toInt64]) (st := []) dX9_findOnPlane_92 calX9_commonDivisor wm1116 wm1117 rfl rfl (Nat.le_of_ble_eq_true rfl) ⟨⟨by decide, by decide⟩, by decide, by decide⟩ (cmX9_commonDivisor hr hq5) (fun h hr => ?_)
      refine nmJ hf (fun x6 hf => ?_)
      refine rw_lstore (lv2 := [(8, .long x6), (7, .int x4), (0, .ref (ad 34)), (1, .ref (ad v1)), (2, .int v2), (3, .ref (ad 10)), (4, .int v4), (5, .long v5)]) dX9_findOnPlane_95 (by decide) rfl ?_
      refine rw_lload dX9_findOnPlane_97 0 rfl ?_
      refine rw_lconst (v := 0) dX9_findOnPlane_99 (by decide) ?_
      refine rw_lcmp dX9_findOnPlane_100 ?_
      refine rw_if_le (tgt := 123) dX9_findOnPlane_101 (by decide) (fun c7 => ?_) (fun c7 => ?_)
      · rw [if_pos c7] at hf
        refine rw_sub [] rfl ?_
        exact t_jX9_findOnPlane_123 (ad := ad) (G := G)  q5.2 _ hr hf
      · rw [if_neg c7] at hf
        refine rw_aload_n dX9_findOnPlane_104 2 rfl rfl ?_
        refine rw_lload dX9_findOnPlane_105 7 rfl ?_
        refine rw_lload dX9_findOnPlane_107 0 rfl ?_
        obtain ⟨hz8, hf⟩ := grd hf
        refine rw_ldiv dX9_findOnPlane_109 hz8 ?_
        refine sp_34_0 hr dX9_findOnPlane_110 fl359 (fun h hr => ?_)
        refine nmS hf hr (fun σ9 hr hf => ?_)
        refine rw_aload_n dX9_findOnPlane_113 2 rfl rfl ?_
        refine rw_iload dX9_findOnPlane_114 1 rfl ?_
        refine rw_i2l dX9_findOnPlane_116 ?_
        refine rw_lload dX9_findOnPlane_117 0 rfl ?_
        obtain ⟨hz10, hf⟩ := grd hf
        refine rw_ldiv dX9_findOnPlane_119 hz10 ?_
        refine sp_34_1 hr dX9_findOnPlane_120 fl361 (fun h hr => ?_)
        refine nmS hf hr (fun σ11 hr hf => ?_)
        refine rw_sub [] rfl ?_
        exact t_jX9_findOnPlane_123 (ad := ad) (G := G)  σ11 _ hr hf
    · rw [if_neg c1] at hf
      refine rw_aload_n dX9_findOnPlane_12 1 rfl rfl ?_
      refine rw_iload_n dX9_findOnPlane_13 2 rfl rfl ?_
      refine rw_aload_n dX9_findOnPlane_14 3 rfl rfl ?_
      refine rw_aload_n dX9_findOnPlane_15 0 rfl rfl ?_
      refine sg_34_4 hr dX9_findOnPlane_16 fl365 ?_
      refine rw_iload dX9_findOnPlane_19 4 rfl ?_
      obtain ⟨hi12, hf⟩ := grd hf
      refine sl_36 hr dX9_findOnPlane_21 (inB_in hi12) ?_
      refine rw_iload dX9_findOnPlane_22 6 rfl ?_
      obtain ⟨q13, hq13, hf⟩ := bnd hf
      refine kV_I (ad := ad) (As := [.int (σ.2.2.1 36 v4.toNatClampNeg), .int v7]) (st := [.int v2, .ref (ad v1)]) dX9_findOnPlane_24 calX6_cornerOf wm1078 wm986 wm987 rfl rfl (rc_10 hr) (ci := 6) (by decide) rfl rfl (Nat.le_of_ble_eq_true rfl) ⟨⟨by decide, by decide⟩, by decide, by decide⟩ (cmX6_cornerOf hr hq13) (fun h hr => ?_)
      obtain ⟨q14, hq14, hf⟩ := bnd hf
      refine kF_lev (ad := ad) (x := v2) (y := q13.1) (st := []) hr dX9_findOnPlane_27 wm1088 (Nat.le_of_ble_eq_true rfl) ⟨⟨by decide, by decide⟩, by decide, by decide⟩ hq14 (fun h hr => ?_)
      refine nmI hf (fun x15 hf => ?_)
      refine rw_istore (lv2 := [(8, .int x15), (0, .ref (ad 34)), (1, .ref (ad v1)), (2, .int v2), (3, .ref (ad 10)), (4, .int v4), (5, .long v5), (7, .int v7)]) dX9_findOnPlane_32 (by decide) rfl ?_
      refine rw_iload dX9_findOnPlane_34 0 rfl ?_
      refine rw_ldc (v := (-1000000)) dX9_findOnPlane_36 wm1086 ?_
      refine rw_icmp_ne (tgt := 42) dX9_findOnPlane_38 (by decide) (fun c16 => ?_) (fun c16 => ?_)
      · rw [if_neg c16] at hf
        refine rw_lload dX9_findOnPlane_42 6 rfl ?_
        refine rw_aload_n dX9_findOnPlane_44 1 rfl rfl ?_
        refine sg_34_5 hr dX9_findOnPlane_45 fl366 ?_
        refine rw_iconst (v := 3) dX9_findOnPlane_48 (by decide) ?_
        refine rw_iload dX9_findOnPlane_49 5 rfl ?_
        refine rw_imul dX9_findOnPlane_51 ?_
        refine rw_iload dX9_findOnPlane_52 7 rfl ?_
        refine rw_iadd dX9_findOnPlane_54 ?_
        obtain ⟨hi17, hf⟩ := grd hf
        refine sl_37 hr dX9_findOnPlane_55 (inB_in hi17) ?_
        refine rw_i2l dX9_findOnPlane_56 ?_
        refine rw_iload dX9_findOnPlane_57 0 rfl ?_
        refine rw_i2l dX9_findOnPlane_59 ?_
        refine rw_lmul dX9_findOnPlane_60 ?_
        refine rw_ladd dX9_findOnPlane_61 ?_
        refine nmJ hf (fun x18 hf => ?_)
        refine rw_lstore (lv2 := [(5, .long x18), (8, .int x15), (0, .ref (ad 34)), (1, .ref (ad v1)), (2, .int v2), (3, .ref (ad 10)), (4, .int v4), (7, .int v7)]) dX9_findOnPlane_62 (by decide) rfl ?_
        refine rw_iinc (v := v7 + 1) (lv2 := [(7, .int (v7 + 1)), (5, .long x18), (8, .int x15), (0, .ref (ad 34)), (1, .ref (ad v1)), (2, .int v2), (3, .ref (ad 10)), (4, .int v4)]) dX9_findOnPlane_64 7 rfl rfl (by decide) rfl ?_
        refine nmL hf (fun x19 hf => ?_)
        refine rw_goto (tgt := 6) dX9_findOnPlane_67 (by decide) ?_
        refine rw_sub [3, 4, 5, 6, 7, 1, 0] rfl ?_
        exact ih v1 v2 v4 x18 x19 q14.2 _ hr hf
      · rw [if_pos c16] at hf
        replace hf := Option.some.inj hf
        subst hf
        exact rw_return dX9_findOnPlane_41 rfl ⟨rfl, hr⟩ (by decide) (by decide)
def fX9_findOnPlane (n1 : Nat) (a1 : Int32) (a3 : Int32) (σ : rS) : Option (Unit × rS) := lX9_findOnPlane_6 1000 n1 a1 a3 0 0 σ
set_option maxHeartbeats 4000000 in
theorem cmX9_findOnPlane {G : rG} {ad : Nat → Nat} {n1 : Nat} {a1 : Int32} {a3 : Int32} {σ : rS} {h : rH} {o : (Unit × rS)} (hr : Rep G ad σ h) (hf : fX9_findOnPlane n1 a1 a3 σ = some o) : rMT G mX9_findOnPlane (rm 2 0 0) [.ref (ad 34), .ref (ad n1), .int a1, .ref (ad 10), .int a3] h (qV G ad o) xN := by
  unfold fX9_findOnPlane at hf
  refine rw_met (by decide +kernel) rfl (Nat.le_of_ble_eq_true rfl) ?_
  show RW G _ _ _ _ 0 0 0 [(0, .ref (ad 34)), (1, .ref (ad n1)), (2, .int a1), (3, .ref (ad 10)), (4, .int a3)] [] h
  refine rw_lconst (v := 0) dX9_findOnPlane_0 (by decide) ?_
  refine rw_lstore (lv2 := [(5, .long 0), (0, .ref (ad 34)), (1, .ref (ad n1)), (2, .int a1), (3, .ref (ad 10)), (4, .int a3)]) dX9_findOnPlane_1 (by decide) rfl ?_
  refine rw_iconst (v := 0) dX9_findOnPlane_3 (by decide) ?_
  refine rw_istore (lv2 := [(7, .int 0), (5, .long 0), (0, .ref (ad 34)), (1, .ref (ad n1)), (2, .int a1), (3, .ref (ad 10)), (4, .int a3)]) dX9_findOnPlane_4 (by decide) rfl ?_
  refine rw_sub [2, 3, 4, 5, 6, 1, 0] rfl ?_
  exact t_lX9_findOnPlane_6 (ad := ad) (G := G)  1000 n1 a1 a3 0 0 σ _ hr hf
def jX9_find_90   (σ : rS) : Option (Unit × rS) := some ((), σ)
set_option maxHeartbeats 4000000 in
theorem t_jX9_find_90 {G : rG} {ad : Nat → Nat} {o : (Unit × rS)}    (σ : rS) (h : rH) (hr : Rep G ad σ h) (hf : jX9_find_90   σ = some o) : RW G mX9_find (rm 3 0 0) (qV G ad o) xN 0 0 90 [] [] h := by
  unfold jX9_find_90 at hf
  replace hf := Option.some.inj hf
  subst hf
  exact rw_return dX9_find_90 rfl ⟨rfl, hr⟩ (by decide) (by decide)
def lX9_find_59  : Nat → Nat → Int32 → Int32 → rS → Option (Unit × rS)
  | 0, _, _, _, _ => none
  | n + 1, v1, v2, v5, σ => if (σ.1 34 6) ≤ v5 then jX9_find_90 σ else (fX9_hasLevel σ).bind fun q9 => if q9.1 = 0 then (fX9_findOnPlane v1 v2 v5 q9.2).bind fun q11 => vI (v5 + 1) fun x12 => (lX9_find_59 n) v1 v2 x12 q11.2 else jX9_find_90 q9.2
set_option maxHeartbeats 4000000 in
theorem t_lX9_find_59 {G : rG} {ad : Nat → Nat} {o : (Unit × rS)}   : ∀ (n : Nat) (v1 : Nat) (v2 : Int32) (v5 : Int32) (σ : rS) (h : rH), Rep G ad σ h → lX9_find_59  n v1 v2 v5 σ = some o → RW G mX9_find (rm 3 0 0) (qV G ad o) xN 0 0 59 [(0, .ref (ad 34)), (1, .ref (ad v1)), (2, .int v2), (3, .ref (ad 10)), (5, .int v5)] [] h := by
  intro n
  induction n with
  | zero =>
    intro v1 v2 v5 σ h hr hf
    rw [lX9_find_59] at hf
    cases hf
  | succ n ih =>
    intro v1 v2 v5 σ h hr hf
    rw [lX9_find_59] at hf
    refine rw_iload dX9_find_59 4 rfl ?_
    refine rw_aload_n dX9_find_61 0 rfl rfl ?_
    refine sg_34_6 hr dX9_find_62 fl367 ?_
    refine rw_icmp_ge (tgt := 90) dX9_find_65 (by decide) (fun c8 => ?_) (fun c8 => ?_)
    · rw [if_pos c8] at hf
      refine rw_sub [] rfl ?_
      exact t_jX9_find_90 (ad := ad) (G := G)  σ _ hr hf
    · rw [if_neg c8] at hf
      refine rw_aload_n dX9_find_68 0 rfl rfl ?_
      obtain ⟨q9, hq9, hf⟩ := bnd hf
      refine kV_I (ad := ad) (As := []) (st := []) dX9_find_69 calX9_hasLevel wm1105 wm1106 wm1107 rfl rfl (rc_34 hr) (ci := 9) (by decide) rfl rfl (Nat.le_of_ble_eq_true rfl) ⟨⟨by decide, by decide⟩, by decide, by decide⟩ (cmX9_hasLevel hr hq9) (fun h hr => ?_)
      refine rw_if_ne (tgt := 90) dX9_find_72 (by decide) (fun c10 => ?_) (fun c10 => ?_)
      · rw [if_neg c10] at hf
        refine rw_sub [] rfl ?_
        exact t_jX9_find_90 (ad := ad) (G := G)  q9.2 _ hr hf
      · rw [if_pos c10] at hf
        refine rw_aload_n dX9_find_75 0 rfl rfl ?_
        refine rw_aload_n dX9_find_76 1 rfl rfl ?_
        refine rw_iload_n dX9_find_77 2 rfl rfl ?_
        refine rw_aload_n dX9_find_78 3 rfl rfl ?_
        refine rw_iload dX9_find_79 4 rfl ?_
        obtain ⟨q11, hq11, hf⟩ := bnd hf
        refine kV_V (ad := ad) (As := [.ref (ad v1), .int v2, .ref (ad 10), .int v5]) (st := []) dX9_find_81 calX9_findOnPlane wm1109 wm1111 wm28 rfl rfl (rc_34 hr) (ci := 9) (by decide) rfl rfl (Nat.le_of_ble_eq_true rfl) ⟨⟨by decide, by decide⟩, by decide, by decide⟩ (cmX9_findOnPlane hr hq11) (fun h hr => ?_)
        refine rw_iinc (v := v5 + 1) (lv2 := [(5, .int (v5 + 1)), (0, .ref (ad 34)), (1, .ref (ad v1)), (2, .int v2), (3, .ref (ad 10))]) dX9_find_84 4 rfl rfl (by decide) rfl ?_
        refine nmL hf (fun x12 hf => ?_)
        refine rw_goto (tgt := 59) dX9_find_87 (by decide) ?_
        refine rw_sub [1, 2, 3, 4, 0] rfl ?_
        exact ih v1 v2 x12 q11.2 _ hr hf
def jX9_find_24  (v1 : Nat) (v2 : Int32) (s0 : Int32) (σ : rS) : Option (Unit × rS) := if s0 = ((-1000000)) then vS (uL σ 34 0 0) fun σ4 => vS (uL σ4 34 1 0) fun σ5 => lX9_find_59 1000 v1 v2 0 σ5 else vS (uL σ 34 0 s0.toInt64) fun σ6 => vS (uL σ6 34 1 1) fun σ7 => some ((), σ7)
set_option maxHeartbeats 4000000 in
theorem t_jX9_find_24 {G : rG} {ad : Nat → Nat} {o : (Unit × rS)}   (v1 : Nat) (v2 : Int32) (s0 : Int32) (σ : rS) (h : rH) (hr : Rep G ad σ h) (hf : jX9_find_24  v1 v2 s0 σ = some o) : RW G mX9_find (rm 3 0 0) (qV G ad o) xN 0 0 24 [(0, .ref (ad 34)), (1, .ref (ad v1)), (2, .int v2), (3, .ref (ad 10))] [.int s0] h := by
  unfold jX9_find_24 at hf
  refine rw_istore (lv2 := [(4, .int s0), (0, .ref (ad 34)), (1, .ref (ad v1)), (2, .int v2), (3, .ref (ad 10))]) dX9_find_24 (by decide) rfl ?_
  refine rw_iload dX9_find_26 0 rfl ?_
  refine rw_ldc (v := (-1000000)) dX9_find_28 wm1086 ?_
  refine rw_icmp_eq (tgt := 46) dX9_find_30 (by decide) (fun c3 => ?_) (fun c3 => ?_)
  · rw [if_pos c3] at hf
    refine rw_aload_n dX9_find_46 1 rfl rfl ?_
    refine rw_lconst (v := 0) dX9_find_47 (by decide) ?_
    refine sp_34_0 hr dX9_find_48 fl359 (fun h hr => ?_)
    refine nmS hf hr (fun σ4 hr hf => ?_)
    refine rw_aload_n dX9_find_51 1 rfl rfl ?_
    refine rw_lconst (v := 0) dX9_find_52 (by decide) ?_
    refine sp_34_1 hr dX9_find_53 fl361 (fun h hr => ?_)
    refine nmS hf hr (fun σ5 hr hf => ?_)
    refine rw_iconst (v := 0) dX9_find_56 (by decide) ?_
    refine rw_istore (lv2 := [(5, .int 0), (4, .int s0), (0, .ref (ad 34)), (1, .ref (ad v1)), (2, .int v2), (3, .ref (ad 10))]) dX9_find_57 (by decide) rfl ?_
    refine rw_sub [2, 3, 4, 5, 0] rfl ?_
    exact t_lX9_find_59 (ad := ad) (G := G)  1000 v1 v2 0 σ5 _ hr hf
  · rw [if_neg c3] at hf
    refine rw_aload_n dX9_find_33 1 rfl rfl ?_
    refine rw_iload dX9_find_34 0 rfl ?_
    refine rw_i2l dX9_find_36 ?_
    refine sp_34_0 hr dX9_find_37 fl359 (fun h hr => ?_)
    refine nmS hf hr (fun σ6 hr hf => ?_)
    refine rw_aload_n dX9_find_40 1 rfl rfl ?_
    refine rw_lconst (v := 1) dX9_find_41 (by decide) ?_
    refine sp_34_1 hr dX9_find_42 fl361 (fun h hr => ?_)
    refine nmS hf hr (fun σ7 hr hf => ?_)
    replace hf := Option.some.inj hf
    subst hf
    exact rw_return dX9_find_45 rfl ⟨rfl, hr⟩ (by decide) (by decide)
def fX9_find (n1 : Nat) (a1 : Int32) (σ : rS) : Option (Unit × rS) := if (σ.1 34 3) = ((-1)) then jX9_find_24 n1 a1 ((-1000000)) σ else (flev n1 a1 (σ.1 34 3) σ).bind fun q2 => jX9_find_24 n1 a1 q2.1 q2.2
set_option maxHeartbeats 4000000 in
theorem cmX9_find {G : rG} {ad : Nat → Nat} {n1 : Nat} {a1 : Int32} {σ : rS} {h : rH} {o : (Unit × rS)} (hr : Rep G ad σ h) (hf : fX9_find n1 a1 σ = some o) : rMT G mX9_find (rm 3 0 0) [.ref (ad 34), .ref (ad n1), .int a1, .ref (ad 10)] h (qV G ad o) xN := by
  unfold fX9_find at hf
  refine rw_met (by decide +kernel) rfl (Nat.le_of_ble_eq_true rfl) ?_
  show RW G _ _ _ _ 0 0 0 [(0, .ref (ad 34)), (1, .ref (ad n1)), (2, .int a1), (3, .ref (ad 10))] [] h
  refine rw_aload_n dX9_find_0 0 rfl rfl ?_
  refine sg_34_3 hr dX9_find_1 fl364 ?_
  refine rw_iconst (v := (-1)) dX9_find_4 (by decide) ?_
  refine rw_icmp_ne (tgt := 13) dX9_find_5 (by decide) (fun c1 => ?_) (fun c1 => ?_)
  · rw [if_neg c1] at hf
    refine rw_aload_n dX9_find_13 1 rfl rfl ?_
    refine rw_iload_n dX9_find_14 2 rfl rfl ?_
    refine rw_aload_n dX9_find_15 0 rfl rfl ?_
    refine sg_34_3 hr dX9_find_16 fl364 ?_
    obtain ⟨q2, hq2, hf⟩ := bnd hf
    refine kF_lev (ad := ad) (x := a1) (y := σ.1 34 3) (st := []) hr dX9_find_19 wm1088 (Nat.le_of_ble_eq_true rfl) ⟨⟨by decide, by decide⟩, by decide, by decide⟩ hq2 (fun h hr => ?_)
    exact t_jX9_find_24 (ad := ad) (G := G)  n1 a1 q2.1 q2.2 _ hr hf
  · rw [if_pos c1] at hf
    refine rw_ldc (v := (-1000000)) dX9_find_8 wm1086 ?_
    refine rw_goto (tgt := 24) dX9_find_10 (by decide) ?_
    exact t_jX9_find_24 (ad := ad) (G := G)  n1 a1 ((-1000000)) σ _ hr hf
def jX9_isNear_38  (s0 : Int32) (σ : rS) : Option (Int32 × rS) := if s0 = 0 ∨ s0 = 1 then some (s0, σ) else none
set_option maxHeartbeats 4000000 in
theorem t_jX9_isNear_38 {G : rG} {ad : Nat → Nat} {o : (Int32 × rS)}   (s0 : Int32) (σ : rS) (h : rH) (hr : Rep G ad σ h) (hf : jX9_isNear_38  s0 σ = some o) : RW G mX9_isNear (rm 1 0 0) (qI G ad o) xN 0 0 38 [] [.int s0] h := by
  unfold jX9_isNear_38 at hf
  obtain ⟨hz4, hf⟩ := grd hf
  replace hf := Option.some.inj hf
  subst hf
  exact rw_zreturn dX9_isNear_38 rfl (nar_z hz4) ⟨rfl, hr⟩ (by decide) (by decide)
def jX9_isNear_37   (σ : rS) : Option (Int32 × rS) := jX9_isNear_38 0 σ
set_option maxHeartbeats 4000000 in
theorem t_jX9_isNear_37 {G : rG} {ad : Nat → Nat} {o : (Int32 × rS)}    (σ : rS) (h : rH) (hr : Rep G ad σ h) (hf : jX9_isNear_37   σ = some o) : RW G mX9_isNear (rm 1 0 0) (qI G ad o) xN 0 0 37 [] [] h := by
  unfold jX9_isNear_37 at hf
  refine rw_iconst (v := 0) dX9_isNear_37 (by decide) ?_
  exact t_jX9_isNear_38 (ad := ad) (G := G)  0 σ _ hr hf
def fX9_isNear (a0 : Int32) (a1 : Int32) (σ : rS) : Option (Int32 × rS) := (fX9_hasLevel σ).bind fun q1 => if q1.1 = 0 then jX9_isNear_37 q1.2 else if 0 < (lg_cmp (if 0 < ((q1.2.2.1 34 0) - (a0.toInt64 * (q1.2.2.1 34 1))) then ((q1.2.2.1 34 0) - (a0.toInt64 * (q1.2.2.1 34 1))) else -((q1.2.2.1 34 0) - (a0.toInt64 * (q1.2.2.1 34 1)))) (a1.toInt64 * (q1.2.2.1 34 1))) then jX9_isNear_37 q1.2 else jX9_isNear_38 1 q1.2
set_option maxHeartbeats 4000000 in
theorem cmX9_isNear {G : rG} {ad : Nat → Nat} {a0 : Int32} {a1 : Int32} {σ : rS} {h : rH} {o : (Int32 × rS)} (hr : Rep G ad σ h) (hf : fX9_isNear a0 a1 σ = some o) : rMT G mX9_isNear (rm 1 0 0) [.ref (ad 34), .int a0, .int a1] h (qI G ad o) xN := by
  unfold fX9_isNear at hf
  refine rw_met (by decide +kernel) rfl (Nat.le_of_ble_eq_true rfl) ?_
  show RW G _ _ _ _ 0 0 0 [(0, .ref (ad 34)), (1, .int a0), (2, .int a1)] [] h
  refine rw_aload_n dX9_isNear_0 0 rfl rfl ?_
  obtain ⟨q1, hq1, hf⟩ := bnd hf
  refine kV_I (ad := ad) (As := []) (st := []) dX9_isNear_1 calX9_hasLevel wm1105 wm1106 wm1107 rfl rfl (rc_34 hr) (ci := 9) (by decide) rfl rfl (Nat.le_of_ble_eq_true rfl) ⟨⟨by decide, by decide⟩, by decide, by decide⟩ (cmX9_hasLevel hr hq1) (fun h hr => ?_)
  refine rw_if_eq (tgt := 37) dX9_isNear_4 (by decide) (fun c2 => ?_) (fun c2 => ?_)
  · rw [if_pos c2] at hf
    refine rw_sub [] rfl ?_
    exact t_jX9_isNear_37 (ad := ad) (G := G)  q1.2 _ hr hf
  · rw [if_neg c2] at hf
    refine rw_aload_n dX9_isNear_7 0 rfl rfl ?_
    refine sg_34_0 hr dX9_isNear_8 fl359 ?_
    refine rw_iload_n dX9_isNear_11 1 rfl rfl ?_
    refine rw_i2l dX9_isNear_12 ?_
    refine rw_aload_n dX9_isNear_13 0 rfl rfl ?_
    refine sg_34_1 hr dX9_isNear_14 fl361 ?_
    refine rw_lmul dX9_isNear_17 ?_
    refine rw_lsub dX9_isNear_18 ?_
    refine rw_mabs_long dX9_isNear_19 wm1113 (by decide) (Nat.le_of_ble_eq_true rfl) (by decide) (by decide) ?_
    refine rw_iload_n dX9_isNear_22 2 rfl rfl ?_
    refine rw_i2l dX9_isNear_23 ?_
    refine rw_aload_n dX9_isNear_24 0 rfl rfl ?_
    refine sg_34_1 hr dX9_isNear_25 fl361 ?_
    refine rw_lmul dX9_isNear_28 ?_
    refine rw_lcmp dX9_isNear_29 ?_
    refine rw_if_gt (tgt := 37) dX9_isNear_30 (by decide) (fun c3 => ?_) (fun c3 => ?_)
    · rw [if_pos c3] at hf
      refine rw_sub [] rfl ?_
      exact t_jX9_isNear_37 (ad := ad) (G := G)  q1.2 _ hr hf
    · rw [if_neg c3] at hf
      refine rw_iconst (v := 1) dX9_isNear_33 (by decide) ?_
      refine rw_goto (tgt := 38) dX9_isNear_34 (by decide) ?_
      refine rw_sub [] rfl ?_
      exact t_jX9_isNear_38 (ad := ad) (G := G)  1 q1.2 _ hr hf
