def fX2_dropStaged  (σ : rS) : Option (Unit × rS) := vS (uI σ 1 2 0) fun σ1 => some ((), σ1)
set_option maxHeartbeats 4000000 in
theorem cmX2_dropStaged {G : rG} {ad : Nat → Nat}  {σ : rS} {h : rH} {o : (Unit × rS)} (hr : Rep G ad σ h) (hf : fX2_dropStaged  σ = some o) : rMT G mX2_dropStaged (rm 0 0 0) [.ref (ad 1)] h (qV G ad o) xN := by
  unfold fX2_dropStaged at hf
  refine rw_met (by decide +kernel) rfl (Nat.le_of_ble_eq_true rfl) ?_
  show RW G _ _ _ _ 0 0 0 [(0, .ref (ad 1))] [] h
  refine rw_aload_n dX2_dropStaged_0 0 rfl rfl ?_
  refine rw_iconst (v := 0) dX2_dropStaged_1 (by decide) ?_
  refine sp_1_2 hr dX2_dropStaged_2 fl174 (fun h hr => ?_)
  refine nmS hf hr (fun σ1 hr hf => ?_)
  replace hf := Option.some.inj hf
  subst hf
  exact rw_return dX2_dropStaged_5 rfl ⟨rfl, hr⟩ (by decide) (by decide)
def jX3_add_48   (σ : rS) : Option (Unit × rS) := some ((), σ)
set_option maxHeartbeats 4000000 in
theorem t_jX3_add_48 {G : rG} {ad : Nat → Nat} {o : (Unit × rS)}    (σ : rS) (h : rH) (hr : Rep G ad σ h) (hf : jX3_add_48   σ = some o) : RW G mX3_add (rm 1 0 0) (qV G ad o) xN 0 0 48 [] [] h := by
  unfold jX3_add_48 at hf
  replace hf := Option.some.inj hf
  subst hf
  exact rw_return dX3_add_48 rfl ⟨rfl, hr⟩ (by decide) (by decide)
def fX3_add (a0 : Int32) (a1 : Int32) (a2 : Int32) (a3 : Int32) (σ : rS) : Option (Unit × rS) := if 8 ≤ (σ.1 3 2) then jX3_add_48 σ else if inB (σ.1 3 2) 8 then if isPl (144 + 2 * (σ.1 3 2).toNatClampNeg) then (fX7_moveTo (144 + 2 * (σ.1 3 2).toNatClampNeg) a0 a1 σ).bind fun q3 => if inB (q3.2.1 3 2) 8 then if isPl (145 + 2 * (q3.2.1 3 2).toNatClampNeg) then (fX7_moveTo (145 + 2 * (q3.2.1 3 2).toNatClampNeg) a2 a3 q3.2).bind fun q6 => vS (uI q6.2 3 2 ((q6.2.1 3 2) + 1)) fun σ8 => jX3_add_48 σ8 else none else none else none else none
set_option maxHeartbeats 4000000 in
theorem cmX3_add {G : rG} {ad : Nat → Nat} {a0 : Int32} {a1 : Int32} {a2 : Int32} {a3 : Int32} {σ : rS} {h : rH} {o : (Unit × rS)} (hr : Rep G ad σ h) (hf : fX3_add a0 a1 a2 a3 σ = some o) : rMT G mX3_add (rm 1 0 0) [.ref (ad 3), .int a0, .int a1, .int a2, .int a3] h (qV G ad o) xN := by
  unfold fX3_add at hf
  refine rw_met (by decide +kernel) rfl (Nat.le_of_ble_eq_true rfl) ?_
  show RW G _ _ _ _ 0 0 0 [(0, .ref (ad 3)), (1, .int a0), (2, .int a1), (3, .int a2), (4, .int a3)] [] h
  refine rw_aload_n dX3_add_0 0 rfl rfl ?_
  refine sg_3_2 hr dX3_add_1 fl193 ?_
  refine rw_bipush (v := 8) dX3_add_4 (by decide) ?_
  refine rw_icmp_ge (tgt := 48) dX3_add_6 (by decide) (fun c1 => ?_) (fun c1 => ?_)
  · rw [if_pos c1] at hf
    refine rw_sub [] rfl ?_
    exact t_jX3_add_48 (ad := ad) (G := G)  σ _ hr hf
  · rw [if_neg c1] at hf
    refine rw_aload_n dX3_add_9 0 rfl rfl ?_
    refine sg_3_0 hr dX3_add_10 fl191 ?_
    refine rw_aload_n dX3_add_13 0 rfl rfl ?_
    refine sg_3_2 hr dX3_add_14 fl193 ?_
    obtain ⟨hi2, hf⟩ := grd hf
    refine sa_4 hr dX3_add_17 (inB_in hi2) ?_
    refine rw_iload_n dX3_add_18 1 rfl rfl ?_
    refine rw_iload_n dX3_add_19 2 rfl rfl ?_
    obtain ⟨hp4, hf⟩ := grd hf
    obtain ⟨q3, hq3, hf⟩ := bnd hf
    refine kV_V (ad := ad) (As := [.int a0, .int a1]) (st := []) dX3_add_20 calX7_moveTo wm503 wm504 wm505 rfl rfl (rc_Pl hr hp4) (ci := 7) (by decide) rfl rfl (Nat.le_of_ble_eq_true rfl) ⟨⟨by decide, by decide⟩, by decide, by decide⟩ (cmX7_moveTo hr hq3) (fun h hr => ?_)
    refine rw_aload_n dX3_add_23 0 rfl rfl ?_
    refine sg_3_1 hr dX3_add_24 fl192 ?_
    refine rw_aload_n dX3_add_27 0 rfl rfl ?_
    refine sg_3_2 hr dX3_add_28 fl193 ?_
    obtain ⟨hi5, hf⟩ := grd hf
    refine sa_5 hr dX3_add_31 (inB_in hi5) ?_
    refine rw_iload_n dX3_add_32 3 rfl rfl ?_
    refine rw_iload dX3_add_33 4 rfl ?_
    obtain ⟨hp7, hf⟩ := grd hf
    obtain ⟨q6, hq6, hf⟩ := bnd hf
    refine kV_V (ad := ad) (As := [.int a2, .int a3]) (st := []) dX3_add_35 calX7_moveTo wm503 wm504 wm505 rfl rfl (rc_Pl hr hp7) (ci := 7) (by decide) rfl rfl (Nat.le_of_ble_eq_true rfl) ⟨⟨by decide, by decide⟩, by decide, by decide⟩ (cmX7_moveTo hr hq6) (fun h hr => ?_)
    refine rw_aload_n dX3_add_38 0 rfl rfl ?_
    refine rw_dup dX3_add_39 rfl ?_
    refine sg_3_2 hr dX3_add_40 fl193 ?_
    refine rw_iconst (v := 1) dX3_add_43 (by decide) ?_
    refine rw_iadd dX3_add_44 ?_
    refine sp_3_2 hr dX3_add_45 fl193 (fun h hr => ?_)
    refine nmS hf hr (fun σ8 hr hf => ?_)
    refine rw_sub [] rfl ?_
    exact t_jX3_add_48 (ad := ad) (G := G)  σ8 _ hr hf
def fX7_turn (n1 : Nat) (n2 : Nat) (n3 : Nat) (σ : rS) : Option (Int32 × rS) := if isPl n2 then if isPl n1 then if isPl n3 then if isPl n1 then if isPl n2 then if isPl n1 then if isPl n3 then if isPl n1 then some (((((σ.1 n2 0) - (σ.1 n1 0)) * ((σ.1 n3 1) - (σ.1 n1 1))) - (((σ.1 n2 1) - (σ.1 n1 1)) * ((σ.1 n3 0) - (σ.1 n1 0)))), σ) else none else none else none else none else none else none else none else none
set_option maxHeartbeats 4000000 in
theorem cmX7_turn {G : rG} {ad : Nat → Nat} {n1 : Nat} {n2 : Nat} {n3 : Nat} {σ : rS} {h : rH} {o : (Int32 × rS)} (hr : Rep G ad σ h) (hf : fX7_turn n1 n2 n3 σ = some o) : rMT G mX7_turn (rm 0 0 0) [.ref (ad n1), .ref (ad n2), .ref (ad n3)] h (qI G ad o) xN := by
  unfold fX7_turn at hf
  refine rw_met (by decide +kernel) rfl (Nat.le_of_ble_eq_true rfl) ?_
  show RW G _ _ _ _ 0 0 0 [(0, .ref (ad n1)), (1, .ref (ad n2)), (2, .ref (ad n3))] [] h
  refine rw_aload_n dX7_turn_0 1 rfl rfl ?_
  obtain ⟨hp1, hf⟩ := grd hf
  refine sg_Pl_0 hr dX7_turn_1 fl121 hp1 ?_
  refine rw_aload_n dX7_turn_4 0 rfl rfl ?_
  obtain ⟨hp2, hf⟩ := grd hf
  refine sg_Pl_0 hr dX7_turn_5 fl121 hp2 ?_
  refine rw_isub dX7_turn_8 ?_
  refine rw_aload_n dX7_turn_9 2 rfl rfl ?_
  obtain ⟨hp3, hf⟩ := grd hf
  refine sg_Pl_1 hr dX7_turn_10 fl125 hp3 ?_
  refine rw_aload_n dX7_turn_13 0 rfl rfl ?_
  obtain ⟨hp4, hf⟩ := grd hf
  refine sg_Pl_1 hr dX7_turn_14 fl125 hp4 ?_
  refine rw_isub dX7_turn_17 ?_
  refine rw_imul dX7_turn_18 ?_
  refine rw_aload_n dX7_turn_19 1 rfl rfl ?_
  obtain ⟨hp5, hf⟩ := grd hf
  refine sg_Pl_1 hr dX7_turn_20 fl125 hp5 ?_
  refine rw_aload_n dX7_turn_23 0 rfl rfl ?_
  obtain ⟨hp6, hf⟩ := grd hf
  refine sg_Pl_1 hr dX7_turn_24 fl125 hp6 ?_
  refine rw_isub dX7_turn_27 ?_
  refine rw_aload_n dX7_turn_28 2 rfl rfl ?_
  obtain ⟨hp7, hf⟩ := grd hf
  refine sg_Pl_0 hr dX7_turn_29 fl121 hp7 ?_
  refine rw_aload_n dX7_turn_32 0 rfl rfl ?_
  obtain ⟨hp8, hf⟩ := grd hf
  refine sg_Pl_0 hr dX7_turn_33 fl121 hp8 ?_
  refine rw_isub dX7_turn_36 ?_
  refine rw_imul dX7_turn_37 ?_
  refine rw_isub dX7_turn_38 ?_
  replace hf := Option.some.inj hf
  subst hf
  exact rw_ireturn dX7_turn_39 rfl ⟨rfl, hr⟩ (by decide) (by decide)
def jX7_areApart_21  (s0 : Int32) (σ : rS) : Option (Int32 × rS) := if s0 = 0 ∨ s0 = 1 then some (s0, σ) else none
set_option maxHeartbeats 4000000 in
theorem t_jX7_areApart_21 {G : rG} {ad : Nat → Nat} {o : (Int32 × rS)}   (s0 : Int32) (σ : rS) (h : rH) (hr : Rep G ad σ h) (hf : jX7_areApart_21  s0 σ = some o) : RW G mX7_areApart (rm 0 0 0) (qI G ad o) xN 0 0 21 [] [.int s0] h := by
  unfold jX7_areApart_21 at hf
  obtain ⟨hz3, hf⟩ := grd hf
  replace hf := Option.some.inj hf
  subst hf
  exact rw_zreturn dX7_areApart_21 rfl (nar_z hz3) ⟨rfl, hr⟩ (by decide) (by decide)
def jX7_areApart_20   (σ : rS) : Option (Int32 × rS) := jX7_areApart_21 0 σ
set_option maxHeartbeats 4000000 in
theorem t_jX7_areApart_20 {G : rG} {ad : Nat → Nat} {o : (Int32 × rS)}    (σ : rS) (h : rH) (hr : Rep G ad σ h) (hf : jX7_areApart_20   σ = some o) : RW G mX7_areApart (rm 0 0 0) (qI G ad o) xN 0 0 20 [] [] h := by
  unfold jX7_areApart_20 at hf
  refine rw_iconst (v := 0) dX7_areApart_20 (by decide) ?_
  exact t_jX7_areApart_21 (ad := ad) (G := G)  0 σ _ hr hf
def jX7_areApart_16   (σ : rS) : Option (Int32 × rS) := jX7_areApart_21 1 σ
set_option maxHeartbeats 4000000 in
theorem t_jX7_areApart_16 {G : rG} {ad : Nat → Nat} {o : (Int32 × rS)}    (σ : rS) (h : rH) (hr : Rep G ad σ h) (hf : jX7_areApart_16   σ = some o) : RW G mX7_areApart (rm 0 0 0) (qI G ad o) xN 0 0 16 [] [] h := by
  unfold jX7_areApart_16 at hf
  refine rw_iconst (v := 1) dX7_areApart_16 (by decide) ?_
  refine rw_goto (tgt := 21) dX7_areApart_17 (by decide) ?_
  exact t_jX7_areApart_21 (ad := ad) (G := G)  1 σ _ hr hf
def jX7_areApart_8  (v0 : Int32) (v1 : Int32) (σ : rS) : Option (Int32 × rS) := if v0 ≤ 0 then jX7_areApart_20 σ else if 0 ≤ v1 then jX7_areApart_20 σ else jX7_areApart_16 σ
set_option maxHeartbeats 4000000 in
theorem t_jX7_areApart_8 {G : rG} {ad : Nat → Nat} {o : (Int32 × rS)}   (v0 : Int32) (v1 : Int32) (σ : rS) (h : rH) (hr : Rep G ad σ h) (hf : jX7_areApart_8  v0 v1 σ = some o) : RW G mX7_areApart (rm 0 0 0) (qI G ad o) xN 0 0 8 [(0, .int v0), (1, .int v1)] [] h := by
  unfold jX7_areApart_8 at hf
  refine rw_iload_n dX7_areApart_8 0 rfl rfl ?_
  refine rw_if_le (tgt := 20) dX7_areApart_9 (by decide) (fun c4 => ?_) (fun c4 => ?_)
  · rw [if_pos c4] at hf
    refine rw_sub [] rfl ?_
    exact t_jX7_areApart_20 (ad := ad) (G := G)  σ _ hr hf
  · rw [if_neg c4] at hf
    refine rw_iload_n dX7_areApart_12 1 rfl rfl ?_
    refine rw_if_ge (tgt := 20) dX7_areApart_13 (by decide) (fun c5 => ?_) (fun c5 => ?_)
    · rw [if_pos c5] at hf
      refine rw_sub [] rfl ?_
      exact t_jX7_areApart_20 (ad := ad) (G := G)  σ _ hr hf
    · rw [if_neg c5] at hf
      refine rw_sub [] rfl ?_
      exact t_jX7_areApart_16 (ad := ad) (G := G)  σ _ hr hf
def fX7_areApart (a0 : Int32) (a1 : Int32) (σ : rS) : Option (Int32 × rS) := if 0 ≤ a0 then jX7_areApart_8 a0 a1 σ else if 0 < a1 then jX7_areApart_16 σ else jX7_areApart_8 a0 a1 σ
set_option maxHeartbeats 4000000 in
theorem cmX7_areApart {G : rG} {ad : Nat → Nat} {a0 : Int32} {a1 : Int32} {σ : rS} {h : rH} {o : (Int32 × rS)} (hr : Rep G ad σ h) (hf : fX7_areApart a0 a1 σ = some o) : rMT G mX7_areApart (rm 0 0 0) [.int a0, .int a1] h (qI G ad o) xN := by
  unfold fX7_areApart at hf
  refine rw_met (by decide +kernel) rfl (Nat.le_of_ble_eq_true rfl) ?_
  show RW G _ _ _ _ 0 0 0 [(0, .int a0), (1, .int a1)] [] h
  refine rw_iload_n dX7_areApart_0 0 rfl rfl ?_
  refine rw_if_ge (tgt := 8) dX7_areApart_1 (by decide) (fun c1 => ?_) (fun c1 => ?_)
  · rw [if_pos c1] at hf
    exact t_jX7_areApart_8 (ad := ad) (G := G)  a0 a1 σ _ hr hf
  · rw [if_neg c1] at hf
    refine rw_iload_n dX7_areApart_4 1 rfl rfl ?_
    refine rw_if_gt (tgt := 16) dX7_areApart_5 (by decide) (fun c2 => ?_) (fun c2 => ?_)
    · rw [if_pos c2] at hf
      refine rw_sub [] rfl ?_
      exact t_jX7_areApart_16 (ad := ad) (G := G)  σ _ hr hf
    · rw [if_neg c2] at hf
      exact t_jX7_areApart_8 (ad := ad) (G := G)  a0 a1 σ _ hr hf
def jX11_isFrom_15  (s0 : Int32) (σ : rS) : Option (Int32 × rS) := if s0 = 0 ∨ s0 = 1 then some (s0, σ) else none
set_option maxHeartbeats 4000000 in
theorem t_jX11_isFrom_15 {G : rG} {ad : Nat → Nat} {o : (Int32 × rS)}   (s0 : Int32) (σ : rS) (h : rH) (hr : Rep G ad σ h) (hf : jX11_isFrom_15  s0 σ = some o) : RW G mX11_isFrom (rm 0 0 0) (qI G ad o) xN 0 0 15 [] [.int s0] h := by
  unfold jX11_isFrom_15 at hf
  obtain ⟨hz3, hf⟩ := grd hf
  replace hf := Option.some.inj hf
  subst hf
  exact rw_zreturn dX11_isFrom_15 rfl (nar_z hz3) ⟨rfl, hr⟩ (by decide) (by decide)
def jX11_isFrom_14   (σ : rS) : Option (Int32 × rS) := jX11_isFrom_15 0 σ
set_option maxHeartbeats 4000000 in
theorem t_jX11_isFrom_14 {G : rG} {ad : Nat → Nat} {o : (Int32 × rS)}    (σ : rS) (h : rH) (hr : Rep G ad σ h) (hf : jX11_isFrom_14   σ = some o) : RW G mX11_isFrom (rm 0 0 0) (qI G ad o) xN 0 0 14 [] [] h := by
  unfold jX11_isFrom_14 at hf
  refine rw_iconst (v := 0) dX11_isFrom_14 (by decide) ?_
  exact t_jX11_isFrom_15 (ad := ad) (G := G)  0 σ _ hr hf
def fX11_isFrom (a0 : Int32) (a1 : Int32) (a2 : Int32) (σ : rS) : Option (Int32 × rS) := if a2 < a0 then jX11_isFrom_14 σ else if a1 < a2 then jX11_isFrom_14 σ else jX11_isFrom_15 1 σ
set_option maxHeartbeats 4000000 in
theorem cmX11_isFrom {G : rG} {ad : Nat → Nat} {a0 : Int32} {a1 : Int32} {a2 : Int32} {σ : rS} {h : rH} {o : (Int32 × rS)} (hr : Rep G ad σ h) (hf : fX11_isFrom a0 a1 a2 σ = some o) : rMT G mX11_isFrom (rm 0 0 0) [.int a0, .int a1, .int a2] h (qI G ad o) xN := by
  unfold fX11_isFrom at hf
  refine rw_met (by decide +kernel) rfl (Nat.le_of_ble_eq_true rfl) ?_
  show RW G _ _ _ _ 0 0 0 [(0, .int a0), (1, .int a1), (2, .int a2)] [] h
  refine rw_iload_n dX11_isFrom_0 0 rfl rfl ?_
  refine rw_iload_n dX11_isFrom_1 2 rfl rfl ?_
  refine rw_icmp_gt (tgt := 14) dX11_isFrom_2 (by decide) (fun c1 => ?_) (fun c1 => ?_)
  · rw [if_pos c1] at hf
    refine rw_sub [] rfl ?_
    exact t_jX11_isFrom_14 (ad := ad) (G := G)  σ _ hr hf
  · rw [if_neg c1] at hf
    refine rw_iload_n dX11_isFrom_5 2 rfl rfl ?_
    refine rw_iload_n dX11_isFrom_6 1 rfl rfl ?_
    refine rw_icmp_gt (tgt := 14) dX11_isFrom_7 (by decide) (fun c2 => ?_) (fun c2 => ?_)
    · rw [if_pos c2] at hf
      refine rw_sub [] rfl ?_
      exact t_jX11_isFrom_14 (ad := ad) (G := G)  σ _ hr hf
    · rw [if_neg c2] at hf
      refine rw_iconst (v := 1) dX11_isFrom_10 (by decide) ?_
      refine rw_goto (tgt := 15) dX11_isFrom_11 (by decide) ?_
      refine rw_sub [] rfl ?_
      exact t_jX11_isFrom_15 (ad := ad) (G := G)  1 σ _ hr hf
def jX7_isOnWay_78  (s0 : Int32) (σ : rS) : Option (Int32 × rS) := if s0 = 0 ∨ s0 = 1 then some (s0, σ) else none
set_option maxHeartbeats 4000000 in
theorem t_jX7_isOnWay_78 {G : rG} {ad : Nat → Nat} {o : (Int32 × rS)}   (s0 : Int32) (σ : rS) (h : rH) (hr : Rep G ad σ h) (hf : jX7_isOnWay_78  s0 σ = some o) : RW G mX7_isOnWay (rm 1 0 0) (qI G ad o) xN 0 0 78 [] [.int s0] h := by
  unfold jX7_isOnWay_78 at hf
  obtain ⟨hz17, hf⟩ := grd hf
  replace hf := Option.some.inj hf
  subst hf
  exact rw_zreturn dX7_isOnWay_78 rfl (nar_z hz17) ⟨rfl, hr⟩ (by decide) (by decide)
def jX7_isOnWay_77   (σ : rS) : Option (Int32 × rS) := jX7_isOnWay_78 0 σ
set_option maxHeartbeats 4000000 in
theorem t_jX7_isOnWay_77 {G : rG} {ad : Nat → Nat} {o : (Int32 × rS)}    (σ : rS) (h : rH) (hr : Rep G ad σ h) (hf : jX7_isOnWay_77   σ = some o) : RW G mX7_isOnWay (rm 1 0 0) (qI G ad o) xN 0 0 77 [] [] h := by
  unfold jX7_isOnWay_77 at hf
  refine rw_iconst (v := 0) dX7_isOnWay_77 (by decide) ?_
  exact t_jX7_isOnWay_78 (ad := ad) (G := G)  0 σ _ hr hf
def fX7_isOnWay (n1 : Nat) (n2 : Nat) (n3 : Nat) (σ : rS) : Option (Int32 × rS) := (fX7_turn n1 n2 n3 σ).bind fun q1 => if q1.1 = 0 then if isPl n1 then if isPl n2 then if isPl n1 then if isPl n2 then if isPl n3 then (fX11_isFrom (if (q1.2.1 n2 0) < (q1.2.1 n1 0) then (q1.2.1 n2 0) else (q1.2.1 n1 0)) (if (q1.2.1 n1 0) < (q1.2.1 n2 0) then (q1.2.1 n2 0) else (q1.2.1 n1 0)) (q1.2.1 n3 0) q1.2).bind fun q8 => (if q8.1 = 0 then jX7_isOnWay_77 q8.2 else if isPl n1 then if isPl n2 then if isPl n1 then if isPl n2 then if isPl n3 then (fX11_isFrom (if (q8.2.1 n2 1) < (q8.2.1 n1 1) then (q8.2.1 n2 1) else (q8.2.1 n1 1)) (if (q8.2.1 n1 1) < (q8.2.1 n2 1) then (q8.2.1 n2 1) else (q8.2.1 n1 1)) (q8.2.1 n3 1) q8.2).bind fun q15 => (if q15.1 = 0 then jX7_isOnWay_77 q15.2 else jX7_isOnWay_78 1 q15.2) else none else none else none else none else none) else none else none else none else none else none else jX7_isOnWay_77 q1.2
set_option maxHeartbeats 4000000 in
theorem cmX7_isOnWay {G : rG} {ad : Nat → Nat} {n1 : Nat} {n2 : Nat} {n3 : Nat} {σ : rS} {h : rH} {o : (Int32 × rS)} (hr : Rep G ad σ h) (hf : fX7_isOnWay n1 n2 n3 σ = some o) : rMT G mX7_isOnWay (rm 1 0 0) [.ref (ad n1), .ref (ad n2), .ref (ad n3)] h (qI G ad o) xN := by
  unfold fX7_isOnWay at hf
  refine rw_met (by decide +kernel) rfl (Nat.le_of_ble_eq_true rfl) ?_
  show RW G _ _ _ _ 0 0 0 [(0, .ref (ad n1)), (1, .ref (ad n2)), (2, .ref (ad n3))] [] h
  refine rw_aload_n dX7_isOnWay_0 0 rfl rfl ?_
  refine rw_aload_n dX7_isOnWay_1 1 rfl rfl ?_
  refine rw_aload_n dX7_isOnWay_2 2 rfl rfl ?_
  obtain ⟨q1, hq1, hf⟩ := bnd hf
  refine kS_I (ad := ad) (As := [.ref (ad n1), .ref (ad n2), .ref (ad n3)]) (st := []) dX7_isOnWay_3 calX7_turn wm572 wm573 rfl rfl (Nat.le_of_ble_eq_true rfl) ⟨⟨by decide, by decide⟩, by decide, by decide⟩ (cmX7_turn hr hq1) (fun h hr => ?_)
  refine rw_if_ne (tgt := 77) dX7_isOnWay_6 (by decide) (fun c2 => ?_) (fun c2 => ?_)
  · rw [if_neg c2] at hf
    refine rw_sub [] rfl ?_
    exact t_jX7_isOnWay_77 (ad := ad) (G := G)  q1.2 _ hr hf
  · rw [if_pos c2] at hf
    refine rw_aload_n dX7_isOnWay_9 0 rfl rfl ?_
    obtain ⟨hp3, hf⟩ := grd hf
    refine sg_Pl_0 hr dX7_isOnWay_10 fl121 hp3 ?_
    refine rw_aload_n dX7_isOnWay_13 1 rfl rfl ?_
    obtain ⟨hp4, hf⟩ := grd hf
    refine sg_Pl_0 hr dX7_isOnWay_14 fl121 hp4 ?_
    refine rw_mmin dX7_isOnWay_17 wm575 (by decide) (Nat.le_of_ble_eq_true rfl) (by decide) (by decide) ?_
    refine rw_aload_n dX7_isOnWay_20 0 rfl rfl ?_
    obtain ⟨hp5, hf⟩ := grd hf
    refine sg_Pl_0 hr dX7_isOnWay_21 fl121 hp5 ?_
    refine rw_aload_n dX7_isOnWay_24 1 rfl rfl ?_
    obtain ⟨hp6, hf⟩ := grd hf
    refine sg_Pl_0 hr dX7_isOnWay_25 fl121 hp6 ?_
    refine rw_mmax dX7_isOnWay_28 wm578 (by decide) (Nat.le_of_ble_eq_true rfl) (by decide) (by decide) ?_
    refine rw_aload_n dX7_isOnWay_31 2 rfl rfl ?_
    obtain ⟨hp7, hf⟩ := grd hf
    refine sg_Pl_0 hr dX7_isOnWay_32 fl121 hp7 ?_
    obtain ⟨q8, hq8, hf⟩ := bnd hf
    refine kSN_I (ad := ad) (As := [.int (if (q1.2.1 n2 0) < (q1.2.1 n1 0) then (q1.2.1 n2 0) else (q1.2.1 n1 0)), .int (if (q1.2.1 n1 0) < (q1.2.1 n2 0) then (q1.2.1 n2 0) else (q1.2.1 n1 0)), .int (q1.2.1 n3 0)]) (st := []) dX7_isOnWay_35 calX11_isFrom wm581 wm490 rfl rfl (Nat.le_of_ble_eq_true rfl) ⟨⟨by decide, by decide⟩, by decide, by decide⟩ (cmX11_isFrom hr hq8) (fun h hr => ?_)
    refine rw_if_eq (tgt := 77) dX7_isOnWay_38 (by decide) (fun c9 => ?_) (fun c9 => ?_)
    · rw [if_pos c9] at hf
      refine rw_sub [] rfl ?_
      exact t_jX7_isOnWay_77 (ad := ad) (G := G)  q8.2 _ hr hf
    · rw [if_neg c9] at hf
      refine rw_aload_n dX7_isOnWay_41 0 rfl rfl ?_
      obtain ⟨hp10, hf⟩ := grd hf
      refine sg_Pl_1 hr dX7_isOnWay_42 fl125 hp10 ?_
      refine rw_aload_n dX7_isOnWay_45 1 rfl rfl ?_
      obtain ⟨hp11, hf⟩ := grd hf
      refine sg_Pl_1 hr dX7_isOnWay_46 fl125 hp11 ?_
      refine rw_mmin dX7_isOnWay_49 wm575 (by decide) (Nat.le_of_ble_eq_true rfl) (by decide) (by decide) ?_
      refine rw_aload_n dX7_isOnWay_52 0 rfl rfl ?_
      obtain ⟨hp12, hf⟩ := grd hf
      refine sg_Pl_1 hr dX7_isOnWay_53 fl125 hp12 ?_
      refine rw_aload_n dX7_isOnWay_56 1 rfl rfl ?_
      obtain ⟨hp13, hf⟩ := grd hf
      refine sg_Pl_1 hr dX7_isOnWay_57 fl125 hp13 ?_
      refine rw_mmax dX7_isOnWay_60 wm578 (by decide) (Nat.le_of_ble_eq_true rfl) (by decide) (by decide) ?_
      refine rw_aload_n dX7_isOnWay_63 2 rfl rfl ?_
      obtain ⟨hp14, hf⟩ := grd hf
      refine sg_Pl_1 hr dX7_isOnWay_64 fl125 hp14 ?_
      obtain ⟨q15, hq15, hf⟩ := bnd hf
      refine kSN_I (ad := ad) (As := [.int (if (q8.2.1 n2 1) < (q8.2.1 n1 1) then (q8.2.1 n2 1) else (q8.2.1 n1 1)), .int (if (q8.2.1 n1 1) < (q8.2.1 n2 1) then (q8.2.1 n2 1) else (q8.2.1 n1 1)), .int (q8.2.1 n3 1)]) (st := []) dX7_isOnWay_67 calX11_isFrom wm581 wm490 rfl rfl (Nat.le_of_ble_eq_true rfl) ⟨⟨by decide, by decide⟩, by decide, by decide⟩ (cmX11_isFrom hr hq15) (fun h hr => ?_)
      refine rw_if_eq (tgt := 77) dX7_isOnWay_70 (by decide) (fun c16 => ?_) (fun c16 => ?_)
      · rw [if_pos c16] at hf
        refine rw_sub [] rfl ?_
        exact t_jX7_isOnWay_77 (ad := ad) (G := G)  q15.2 _ hr hf
      · rw [if_neg c16] at hf
        refine rw_iconst (v := 1) dX7_isOnWay_73 (by decide) ?_
        refine rw_goto (tgt := 78) dX7_isOnWay_74 (by decide) ?_
        refine rw_sub [] rfl ?_
        exact t_jX7_isOnWay_78 (ad := ad) (G := G)  1 q15.2 _ hr hf
def jX7_waysMeet_79  (s0 : Int32) (σ : rS) : Option (Int32 × rS) := if s0 = 0 ∨ s0 = 1 then some (s0, σ) else none
set_option maxHeartbeats 4000000 in
theorem t_jX7_waysMeet_79 {G : rG} {ad : Nat → Nat} {o : (Int32 × rS)}   (s0 : Int32) (σ : rS) (h : rH) (hr : Rep G ad σ h) (hf : jX7_waysMeet_79  s0 σ = some o) : RW G mX7_waysMeet (rm 2 0 0) (qI G ad o) xN 0 0 79 [] [.int s0] h := by
  unfold jX7_waysMeet_79 at hf
  obtain ⟨hz17, hf⟩ := grd hf
  replace hf := Option.some.inj hf
  subst hf
  exact rw_zreturn dX7_waysMeet_79 rfl (nar_z hz17) ⟨rfl, hr⟩ (by decide) (by decide)
def jX7_waysMeet_74   (σ : rS) : Option (Int32 × rS) := jX7_waysMeet_79 1 σ
set_option maxHeartbeats 4000000 in
theorem t_jX7_waysMeet_74 {G : rG} {ad : Nat → Nat} {o : (Int32 × rS)}    (σ : rS) (h : rH) (hr : Rep G ad σ h) (hf : jX7_waysMeet_74   σ = some o) : RW G mX7_waysMeet (rm 2 0 0) (qI G ad o) xN 0 0 74 [] [] h := by
  unfold jX7_waysMeet_74 at hf
  refine rw_iconst (v := 1) dX7_waysMeet_74 (by decide) ?_
  refine rw_goto (tgt := 79) dX7_waysMeet_75 (by decide) ?_
  exact t_jX7_waysMeet_79 (ad := ad) (G := G)  1 σ _ hr hf
def jX7_waysMeet_38  (v0 : Nat) (v1 : Nat) (v2 : Nat) (v3 : Nat) (σ : rS) : Option (Int32 × rS) := (fX7_isOnWay v0 v1 v2 σ).bind fun q9 => if q9.1 = 0 then (fX7_isOnWay v0 v1 v3 q9.2).bind fun q11 => if q11.1 = 0 then (fX7_isOnWay v2 v3 v0 q11.2).bind fun q13 => if q13.1 = 0 then (fX7_isOnWay v2 v3 v1 q13.2).bind fun q15 => if q15.1 = 0 then jX7_waysMeet_79 0 q15.2 else jX7_waysMeet_74 q15.2 else jX7_waysMeet_74 q13.2 else jX7_waysMeet_74 q11.2 else jX7_waysMeet_74 q9.2
set_option maxHeartbeats 4000000 in
theorem t_jX7_waysMeet_38 {G : rG} {ad : Nat → Nat} {o : (Int32 × rS)}   (v0 : Nat) (v1 : Nat) (v2 : Nat) (v3 : Nat) (σ : rS) (h : rH) (hr : Rep G ad σ h) (hf : jX7_waysMeet_38  v0 v1 v2 v3 σ = some o) : RW G mX7_waysMeet (rm 2 0 0) (qI G ad o) xN 0 0 38 [(0, .ref (ad v0)), (1, .ref (ad v1)), (2, .ref (ad v2)), (3, .ref (ad v3))] [] h := by
  unfold jX7_waysMeet_38 at hf
  refine rw_aload_n dX7_waysMeet_38 0 rfl rfl ?_
  refine rw_aload_n dX7_waysMeet_39 1 rfl rfl ?_
  refine rw_aload_n dX7_waysMeet_40 2 rfl rfl ?_
  obtain ⟨q9, hq9, hf⟩ := bnd hf
  refine kS_I (ad := ad) (As := [.ref (ad v0), .ref (ad v1), .ref (ad v2)]) (st := []) dX7_waysMeet_41 calX7_isOnWay wm592 wm570 rfl rfl (Nat.le_of_ble_eq_true rfl) ⟨⟨by decide, by decide⟩, by decide, by decide⟩ (cmX7_isOnWay hr hq9) (fun h hr => ?_)
  refine rw_if_ne (tgt := 74) dX7_waysMeet_44 (by decide) (fun c10 => ?_) (fun c10 => ?_)
  · rw [if_neg c10] at hf
    refine rw_sub [] rfl ?_
    exact t_jX7_waysMeet_74 (ad := ad) (G := G)  q9.2 _ hr hf
  · rw [if_pos c10] at hf
    refine rw_aload_n dX7_waysMeet_47 0 rfl rfl ?_
    refine rw_aload_n dX7_waysMeet_48 1 rfl rfl ?_
    refine rw_aload_n dX7_waysMeet_49 3 rfl rfl ?_
    obtain ⟨q11, hq11, hf⟩ := bnd hf
    refine kS_I (ad := ad) (As := [.ref (ad v0), .ref (ad v1), .ref (ad v3)]) (st := []) dX7_waysMeet_50 calX7_isOnWay wm592 wm570 rfl rfl (Nat.le_of_ble_eq_true rfl) ⟨⟨by decide, by decide⟩, by decide, by decide⟩ (cmX7_isOnWay hr hq11) (fun h hr => ?_)
    refine rw_if_ne (tgt := 74) dX7_waysMeet_53 (by decide) (fun c12 => ?_) (fun c12 => ?_)
    · rw [if_neg c12] at hf
      refine rw_sub [] rfl ?_
      exact t_jX7_waysMeet_74 (ad := ad) (G := G)  q11.2 _ hr hf
    · rw [if_pos c12] at hf
      refine rw_aload_n dX7_waysMeet_56 2 rfl rfl ?_
      refine rw_aload_n dX7_waysMeet_57 3 rfl rfl ?_
      refine rw_aload_n dX7_waysMeet_58 0 rfl rfl ?_
      obtain ⟨q13, hq13, hf⟩ := bnd hf
      refine kS_I (ad := ad) (As := [.ref (ad v2), .ref (ad v3), .ref (ad v0)]) (st := []) dX7_waysMeet_59 calX7_isOnWay wm592 wm570 rfl rfl (Nat.le_of_ble_eq_true rfl) ⟨⟨by decide, by decide⟩, by decide, by decide⟩ (cmX7_isOnWay hr hq13) (fun h hr => ?_)
      refine rw_if_ne (tgt := 74) dX7_waysMeet_62 (by decide) (fun c14 => ?_) (fun c14 => ?_)
      · rw [if_neg c14] at hf
        refine rw_sub [] rfl ?_
        exact t_jX7_waysMeet_74 (ad := ad) (G := G)  q13.2 _ hr hf
      · rw [if_pos c14] at hf
        refine rw_aload_n dX7_waysMeet_65 2 rfl rfl ?_
        refine rw_aload_n dX7_waysMeet_66 3 rfl rfl ?_
        refine rw_aload_n dX7_waysMeet_67 1 rfl rfl ?_
        obtain ⟨q15, hq15, hf⟩ := bnd hf
        refine kS_I (ad := ad) (As := [.ref (ad v2), .ref (ad v3), .ref (ad v1)]) (st := []) dX7_waysMeet_68 calX7_isOnWay wm592 wm570 rfl rfl (Nat.le_of_ble_eq_true rfl) ⟨⟨by decide, by decide⟩, by decide, by decide⟩ (cmX7_isOnWay hr hq15) (fun h hr => ?_)
        refine rw_if_eq (tgt := 78) dX7_waysMeet_71 (by decide) (fun c16 => ?_) (fun c16 => ?_)
        · rw [if_pos c16] at hf
          refine rw_iconst (v := 0) dX7_waysMeet_78 (by decide) ?_
          refine rw_sub [] rfl ?_
          exact t_jX7_waysMeet_79 (ad := ad) (G := G)  0 q15.2 _ hr hf
        · rw [if_neg c16] at hf
          refine rw_sub [] rfl ?_
          exact t_jX7_waysMeet_74 (ad := ad) (G := G)  q15.2 _ hr hf
def fX7_waysMeet (n1 : Nat) (n2 : Nat) (n3 : Nat) (n4 : Nat) (σ : rS) : Option (Int32 × rS) := (fX7_turn n1 n2 n3 σ).bind fun q1 => (fX7_turn n1 n2 n4 q1.2).bind fun q2 => (fX7_areApart q1.1 q2.1 q2.2).bind fun q3 => if q3.1 = 0 then jX7_waysMeet_38 n1 n2 n3 n4 q3.2 else (fX7_turn n3 n4 n1 q3.2).bind fun q5 => (fX7_turn n3 n4 n2 q5.2).bind fun q6 => (fX7_areApart q5.1 q6.1 q6.2).bind fun q7 => if q7.1 = 0 then jX7_waysMeet_38 n1 n2 n3 n4 q7.2 else some (1, q7.2)
set_option maxHeartbeats 4000000 in
theorem cmX7_waysMeet {G : rG} {ad : Nat → Nat} {n1 : Nat} {n2 : Nat} {n3 : Nat} {n4 : Nat} {σ : rS} {h : rH} {o : (Int32 × rS)} (hr : Rep G ad σ h) (hf : fX7_waysMeet n1 n2 n3 n4 σ = some o) : rMT G mX7_waysMeet (rm 2 0 0) [.ref (ad n1), .ref (ad n2), .ref (ad n3), .ref (ad n4)] h (qI G ad o) xN := by
  unfold fX7_waysMeet at hf
  refine rw_met (by decide +kernel) rfl (Nat.le_of_ble_eq_true rfl) ?_
  show RW G _ _ _ _ 0 0 0 [(0, .ref (ad n1)), (1, .ref (ad n2)), (2, .ref (ad n3)), (3, .ref (ad n4))] [] h
  refine rw_aload_n dX7_waysMeet_0 0 rfl rfl ?_
  refine rw_aload_n dX7_waysMeet_1 1 rfl rfl ?_
  refine rw_aload_n dX7_waysMeet_2 2 rfl rfl ?_
  obtain ⟨q1, hq1, hf⟩ := bnd hf
  refine kS_I (ad := ad) (As := [.ref (ad n1), .ref (ad n2), .ref (ad n3)]) (st := []) dX7_waysMeet_3 calX7_turn wm572 wm573 rfl rfl (Nat.le_of_ble_eq_true rfl) ⟨⟨by decide, by decide⟩, by decide, by decide⟩ (cmX7_turn hr hq1) (fun h hr => ?_)
  refine rw_aload_n dX7_waysMeet_6 0 rfl rfl ?_
  refine rw_aload_n dX7_waysMeet_7 1 rfl rfl ?_
  refine rw_aload_n dX7_waysMeet_8 3 rfl rfl ?_
  obtain ⟨q2, hq2, hf⟩ := bnd hf
  refine kS_I (ad := ad) (As := [.ref (ad n1), .ref (ad n2), .ref (ad n4)]) (st := [.int q1.1]) dX7_waysMeet_9 calX7_turn wm572 wm573 rfl rfl (Nat.le_of_ble_eq_true rfl) ⟨⟨by decide, by decide⟩, by decide, by decide⟩ (cmX7_turn hr hq2) (fun h hr => ?_)
  obtain ⟨q3, hq3, hf⟩ := bnd hf
  refine kS_I (ad := ad) (As := [.int q1.1, .int q2.1]) (st := []) dX7_waysMeet_12 calX7_areApart wm589 wm590 rfl rfl (Nat.le_of_ble_eq_true rfl) ⟨⟨by decide, by decide⟩, by decide, by decide⟩ (cmX7_areApart hr hq3) (fun h hr => ?_)
  refine rw_if_eq (tgt := 38) dX7_waysMeet_15 (by decide) (fun c4 => ?_) (fun c4 => ?_)
  · rw [if_pos c4] at hf
    exact t_jX7_waysMeet_38 (ad := ad) (G := G)  n1 n2 n3 n4 q3.2 _ hr hf
  · rw [if_neg c4] at hf
    refine rw_aload_n dX7_waysMeet_18 2 rfl rfl ?_
    refine rw_aload_n dX7_waysMeet_19 3 rfl rfl ?_
    refine rw_aload_n dX7_waysMeet_20 0 rfl rfl ?_
    obtain ⟨q5, hq5, hf⟩ := bnd hf
    refine kS_I (ad := ad) (As := [.ref (ad n3), .ref (ad n4), .ref (ad n1)]) (st := []) dX7_waysMeet_21 calX7_turn wm572 wm573 rfl rfl (Nat.le_of_ble_eq_true rfl) ⟨⟨by decide, by decide⟩, by decide, by decide⟩ (cmX7_turn hr hq5) (fun h hr => ?_)
    refine rw_aload_n dX7_waysMeet_24 2 rfl rfl ?_
    refine rw_aload_n dX7_waysMeet_25 3 rfl rfl ?_
    refine rw_aload_n dX7_waysMeet_26 1 rfl rfl ?_
    obtain ⟨q6, hq6, hf⟩ := bnd hf
    refine kS_I (ad := ad) (As := [.ref (ad n3), .ref (ad n4), .ref (ad n2)]) (st := [.int q5.1]) dX7_waysMeet_27 calX7_turn wm572 wm573 rfl rfl (Nat.le_of_ble_eq_true rfl) ⟨⟨by decide, by decide⟩, by decide, by decide⟩ (cmX7_turn hr hq6) (fun h hr => ?_)
    obtain ⟨q7, hq7, hf⟩ := bnd hf
    refine kS_I (ad := ad) (As := [.int q5.1, .int q6.1]) (st := []) dX7_waysMeet_30 calX7_areApart wm589 wm590 rfl rfl (Nat.le_of_ble_eq_true rfl) ⟨⟨by decide, by decide⟩, by decide, by decide⟩ (cmX7_areApart hr hq7) (fun h hr => ?_)
    refine rw_if_eq (tgt := 38) dX7_waysMeet_33 (by decide) (fun c8 => ?_) (fun c8 => ?_)
    · rw [if_pos c8] at hf
      exact t_jX7_waysMeet_38 (ad := ad) (G := G)  n1 n2 n3 n4 q7.2 _ hr hf
    · rw [if_neg c8] at hf
      refine rw_iconst (v := 1) dX7_waysMeet_36 (by decide) ?_
      replace hf := Option.some.inj hf
      subst hf
      exact rw_zreturn dX7_waysMeet_37 rfl (by decide) ⟨rfl, hr⟩ (by decide) (by decide)
def lX3_breakWay_2  : Nat → Nat → Nat → Int32 → rS → Option (Int32 × rS)
  | 0, _, _, _, _ => none
  | n + 1, v1, v2, v3, σ => if (σ.1 3 2) ≤ v3 then some (0, σ) else if inB v3 8 then if inB v3 8 then (fX7_waysMeet (144 + 2 * v3.toNatClampNeg) (145 + 2 * v3.toNatClampNeg) v1 v2 σ).bind fun q4 => (if q4.1 = 0 then vI (v3 + 1) fun x6 => (lX3_breakWay_2 n) v1 v2 x6 q4.2 else some (1, q4.2)) else none else none
set_option maxHeartbeats 4000000 in
theorem t_lX3_breakWay_2 {G : rG} {ad : Nat → Nat} {o : (Int32 × rS)}   : ∀ (n : Nat) (v1 : Nat) (v2 : Nat) (v3 : Int32) (σ : rS) (h : rH), Rep G ad σ h → lX3_breakWay_2  n v1 v2 v3 σ = some o → RW G mX3_breakWay (rm 3 0 0) (qI G ad o) xN 0 0 2 [(0, .ref (ad 3)), (1, .ref (ad v1)), (2, .ref (ad v2)), (3, .int v3)] [] h := by
  intro n
  induction n with
  | zero =>
    intro v1 v2 v3 σ h hr hf
    rw [lX3_breakWay_2] at hf
    cases hf
  | succ n ih =>
    intro v1 v2 v3 σ h hr hf
    rw [lX3_breakWay_2] at hf
    refine rw_iload_n dX3_breakWay_2 3 rfl rfl ?_
    refine rw_aload_n dX3_breakWay_3 0 rfl rfl ?_
    refine sg_3_2 hr dX3_breakWay_4 fl193 ?_
    refine rw_icmp_ge (tgt := 38) dX3_breakWay_7 (by decide) (fun c1 => ?_) (fun c1 => ?_)
    · rw [if_pos c1] at hf
      refine rw_iconst (v := 0) dX3_breakWay_38 (by decide) ?_
      replace hf := Option.some.inj hf
      subst hf
      exact rw_zreturn dX3_breakWay_39 rfl (by decide) ⟨rfl, hr⟩ (by decide) (by decide)
    · rw [if_neg c1] at hf
      refine rw_aload_n dX3_breakWay_10 0 rfl rfl ?_
      refine sg_3_0 hr dX3_breakWay_11 fl191 ?_
      refine rw_iload_n dX3_breakWay_14 3 rfl rfl ?_
      obtain ⟨hi2, hf⟩ := grd hf
      refine sa_4 hr dX3_breakWay_15 (inB_in hi2) ?_
      refine rw_aload_n dX3_breakWay_16 0 rfl rfl ?_
      refine sg_3_1 hr dX3_breakWay_17 fl192 ?_
      refine rw_iload_n dX3_breakWay_20 3 rfl rfl ?_
      obtain ⟨hi3, hf⟩ := grd hf
      refine sa_5 hr dX3_breakWay_21 (inB_in hi3) ?_
      refine rw_aload_n dX3_breakWay_22 1 rfl rfl ?_
      refine rw_aload_n dX3_breakWay_23 2 rfl rfl ?_
      obtain ⟨q4, hq4, hf⟩ := bnd hf
      refine kS_I (ad := ad) (As := [.ref (ad (144 + 2 * v3.toNatClampNeg)), .ref (ad (145 + 2 * v3.toNatClampNeg)), .ref (ad v1), .ref (ad v2)]) (st := []) dX3_breakWay_24 calX7_waysMeet wm597 wm587 rfl rfl (Nat.le_of_ble_eq_true rfl) ⟨⟨by decide, by decide⟩, by decide, by decide⟩ (cmX7_waysMeet hr hq4) (fun h hr => ?_)
      refine rw_if_eq (tgt := 32) dX3_breakWay_27 (by decide) (fun c5 => ?_) (fun c5 => ?_)
      · rw [if_pos c5] at hf
        refine rw_iinc (v := v3 + 1) (lv2 := [(3, .int (v3 + 1)), (0, .ref (ad 3)), (1, .ref (ad v1)), (2, .ref (ad v2))]) dX3_breakWay_32 3 rfl rfl (by decide) rfl ?_
        refine nmL hf (fun x6 hf => ?_)
        refine rw_goto (tgt := 2) dX3_breakWay_35 (by decide) ?_
        refine rw_sub [1, 2, 3, 0] rfl ?_
        exact ih v1 v2 x6 q4.2 _ hr hf
      · rw [if_neg c5] at hf
        refine rw_iconst (v := 1) dX3_breakWay_30 (by decide) ?_
        replace hf := Option.some.inj hf
        subst hf
        exact rw_zreturn dX3_breakWay_31 rfl (by decide) ⟨rfl, hr⟩ (by decide) (by decide)
def fX3_breakWay (n1 : Nat) (n2 : Nat) (σ : rS) : Option (Int32 × rS) := lX3_breakWay_2 1000 n1 n2 0 σ
set_option maxHeartbeats 4000000 in
theorem cmX3_breakWay {G : rG} {ad : Nat → Nat} {n1 : Nat} {n2 : Nat} {σ : rS} {h : rH} {o : (Int32 × rS)} (hr : Rep G ad σ h) (hf : fX3_breakWay n1 n2 σ = some o) : rMT G mX3_breakWay (rm 3 0 0) [.ref (ad 3), .ref (ad n1), .ref (ad n2)] h (qI G ad o) xN := by
  unfold fX3_breakWay at hf
  refine rw_met (by decide +kernel) rfl (Nat.le_of_ble_eq_true rfl) ?_
  show RW G _ _ _ _ 0 0 0 [(0, .ref (ad 3)), (1, .ref (ad n1)), (2, .ref (ad n2))] [] h
  refine rw_iconst (v := 0) dX3_breakWay_0 (by decide) ?_
  refine rw_istore_n (lv2 := [(3, .int 0), (0, .ref (ad 3)), (1, .ref (ad n1)), (2, .ref (ad n2))]) dX3_breakWay_1 rfl (by decide) rfl ?_
  refine rw_sub [1, 2, 3, 0] rfl ?_
  exact t_lX3_breakWay_2 (ad := ad) (G := G)  1000 n1 n2 0 σ _ hr hf
def jX5_pairCost_66  (v5 : Int32) (σ : rS) : Option (Int32 × rS) := some (v5, σ)
set_option maxHeartbeats 4000000 in
theorem t_jX5_pairCost_66 {G : rG} {ad : Nat → Nat} {o : (Int32 × rS)}   (v5 : Int32) (σ : rS) (h : rH) (hr : Rep G ad σ h) (hf : jX5_pairCost_66  v5 σ = some o) : RW G mX5_pairCost (rm 1 0 0) (qI G ad o) xN 0 0 66 [(5, .int v5)] [] h := by
  unfold jX5_pairCost_66 at hf
  refine rw_iload dX5_pairCost_66 0 rfl ?_
  replace hf := Option.some.inj hf
  subst hf
  exact rw_ireturn dX5_pairCost_68 rfl ⟨rfl, hr⟩ (by decide) (by decide)
def fX5_pairCost (n1 : Nat) (a1 : Int32) (n3 : Nat) (a3 : Int32) (σ : rS) : Option (Int32 × rS) := if isBo n1 then if isTh (n1 + 3) then if inB a1 12 then if isBo n3 then if isTh (n3 + 3) then if inB a3 12 then vI (if 0 ≤ ((σ.2.2.1 (n1 + 3) a1.toNatClampNeg) - (σ.2.2.1 (n3 + 3) a3.toNatClampNeg)) then ((σ.2.2.1 (n1 + 3) a1.toNatClampNeg) - (σ.2.2.1 (n3 + 3) a3.toNatClampNeg)) else 0 - ((σ.2.2.1 (n1 + 3) a1.toNatClampNeg) - (σ.2.2.1 (n3 + 3) a3.toNatClampNeg))) fun x7 => if isBo n1 then if isKi (n1 + 2) then if inB a1 12 then if isBo n3 then if isKi (n3 + 2) then if inB a3 12 then (if (σ.2.2.1 (n1 + 2) a1.toNatClampNeg) = (σ.2.2.1 (n3 + 2) a3.toNatClampNeg) then jX5_pairCost_66 x7 σ else if isBo n1 then if isKi (n1 + 2) then if inB a1 12 then if inB (σ.2.2.1 (n1 + 2) a1.toNatClampNeg) 8 then if isBo n3 then if isKi (n3 + 2) then if inB a3 12 then if inB (σ.2.2.1 (n3 + 2) a3.toNatClampNeg) 8 then vI (x7 + (100 + (50 * (if 0 ≤ ((σ.2.2.1 41 (σ.2.2.1 (n1 + 2) a1.toNatClampNeg).toNatClampNeg) - (σ.2.2.1 41 (σ.2.2.1 (n3 + 2) a3.toNatClampNeg).toNatClampNeg)) then ((σ.2.2.1 41 (σ.2.2.1 (n1 + 2) a1.toNatClampNeg).toNatClampNeg) - (σ.2.2.1 41 (σ.2.2.1 (n3 + 2) a3.toNatClampNeg).toNatClampNeg)) else 0 - ((σ.2.2.1 41 (σ.2.2.1 (n1 + 2) a1.toNatClampNeg).toNatClampNeg) - (σ.2.2.1 41 (σ.2.2.1 (n3 + 2) a3.toNatClampNeg).toNatClampNeg)))))) fun x23 => jX5_pairCost_66 x23 σ else none else none else none else none else none else none else none else none) else none else none else none else none else none else none else none else none else none else none else none else none
set_option maxHeartbeats 4000000 in
theorem cmX5_pairCost {G : rG} {ad : Nat → Nat} {n1 : Nat} {a1 : Int32} {n3 : Nat} {a3 : Int32} {σ : rS} {h : rH} {o : (Int32 × rS)} (hr : Rep G ad σ h) (hf : fX5_pairCost n1 a1 n3 a3 σ = some o) : rMT G mX5_pairCost (rm 1 0 0) [.ref (ad n1), .int a1, .ref (ad n3), .int a3, .ref (ad 41)] h (qI G ad o) xN := by
  unfold fX5_pairCost at hf
  refine rw_met (by decide +kernel) rfl (Nat.le_of_ble_eq_true rfl) ?_
  show RW G _ _ _ _ 0 0 0 [(0, .ref (ad n1)), (1, .int a1), (2, .ref (ad n3)), (3, .int a3), (4, .ref (ad 41))] [] h
  refine rw_aload_n dX5_pairCost_0 0 rfl rfl ?_
  obtain ⟨hp1, hf⟩ := grd hf
  refine sg_Bo_2 hr dX5_pairCost_1 fl144 hp1 ?_
  refine rw_iload_n dX5_pairCost_4 1 rfl rfl ?_
  obtain ⟨hp3, hf⟩ := grd hf
  obtain ⟨hi2, hf⟩ := grd hf
  refine sl_Th hr dX5_pairCost_5 hp3 (inB_in hi2) ?_
  refine rw_aload_n dX5_pairCost_6 2 rfl rfl ?_
  obtain ⟨hp4, hf⟩ := grd hf
  refine sg_Bo_2 hr dX5_pairCost_7 fl144 hp4 ?_
  refine rw_iload_n dX5_pairCost_10 3 rfl rfl ?_
  obtain ⟨hp6, hf⟩ := grd hf
  obtain ⟨hi5, hf⟩ := grd hf
  refine sl_Th hr dX5_pairCost_11 hp6 (inB_in hi5) ?_
  refine rw_isub dX5_pairCost_12 ?_
  refine rw_mabs dX5_pairCost_13 wm643 (by decide) (Nat.le_of_ble_eq_true rfl) (by decide) (by decide) ?_
  refine nmI hf (fun x7 hf => ?_)
  refine rw_istore (lv2 := [(5, .int x7), (0, .ref (ad n1)), (1, .int a1), (2, .ref (ad n3)), (3, .int a3), (4, .ref (ad 41))]) dX5_pairCost_16 (by decide) rfl ?_
  refine rw_aload_n dX5_pairCost_18 1 rfl rfl ?_
  obtain ⟨hp8, hf⟩ := grd hf
  refine sg_Bo_1 hr dX5_pairCost_19 fl141 hp8 ?_
  refine rw_iload_n dX5_pairCost_22 2 rfl rfl ?_
  obtain ⟨hp10, hf⟩ := grd hf
  obtain ⟨hi9, hf⟩ := grd hf
  refine sl_Ki hr dX5_pairCost_23 hp10 (inB_in hi9) ?_
  refine rw_aload_n dX5_pairCost_24 3 rfl rfl ?_
  obtain ⟨hp11, hf⟩ := grd hf
  refine sg_Bo_1 hr dX5_pairCost_25 fl141 hp11 ?_
  refine rw_iload_n dX5_pairCost_28 4 rfl rfl ?_
  obtain ⟨hp13, hf⟩ := grd hf
  obtain ⟨hi12, hf⟩ := grd hf
  refine sl_Ki hr dX5_pairCost_29 hp13 (inB_in hi12) ?_
  refine rw_icmp_eq (tgt := 66) dX5_pairCost_30 (by decide) (fun c14 => ?_) (fun c14 => ?_)
  · rw [if_pos c14] at hf
    refine rw_sub [0] rfl ?_
    exact t_jX5_pairCost_66 (ad := ad) (G := G)  x7 σ _ hr hf
  · rw [if_neg c14] at hf
    refine rw_iload dX5_pairCost_33 0 rfl ?_
    refine rw_bipush (v := 100) dX5_pairCost_35 (by decide) ?_
    refine rw_bipush (v := 50) dX5_pairCost_37 (by decide) ?_
    refine rw_aload dX5_pairCost_39 5 rfl ?_
    refine rw_aload_n dX5_pairCost_41 1 rfl rfl ?_
    obtain ⟨hp15, hf⟩ := grd hf
    refine sg_Bo_1 hr dX5_pairCost_42 fl141 hp15 ?_
    refine rw_iload_n dX5_pairCost_45 2 rfl rfl ?_
    obtain ⟨hp17, hf⟩ := grd hf
    obtain ⟨hi16, hf⟩ := grd hf
    refine sl_Ki hr dX5_pairCost_46 hp17 (inB_in hi16) ?_
    obtain ⟨hi18, hf⟩ := grd hf
    refine sl_41 hr dX5_pairCost_47 (inB_in hi18) ?_
    refine rw_aload dX5_pairCost_48 5 rfl ?_
    refine rw_aload_n dX5_pairCost_50 3 rfl rfl ?_
    obtain ⟨hp19, hf⟩ := grd hf
    refine sg_Bo_1 hr dX5_pairCost_51 fl141 hp19 ?_
    refine rw_iload_n dX5_pairCost_54 4 rfl rfl ?_
    obtain ⟨hp21, hf⟩ := grd hf
    obtain ⟨hi20, hf⟩ := grd hf
    refine sl_Ki hr dX5_pairCost_55 hp21 (inB_in hi20) ?_
    obtain ⟨hi22, hf⟩ := grd hf
    refine sl_41 hr dX5_pairCost_56 (inB_in hi22) ?_
    refine rw_isub dX5_pairCost_57 ?_
    refine rw_mabs dX5_pairCost_58 wm643 (by decide) (Nat.le_of_ble_eq_true rfl) (by decide) (by decide) ?_
    refine rw_imul dX5_pairCost_61 ?_
    refine rw_iadd dX5_pairCost_62 ?_
    refine rw_iadd dX5_pairCost_63 ?_
    refine nmI hf (fun x23 hf => ?_)
    refine rw_istore (lv2 := [(5, .int x23), (0, .ref (ad n1)), (1, .int a1), (2, .ref (ad n3)), (3, .int a3), (4, .ref (ad 41))]) dX5_pairCost_64 (by decide) rfl ?_
    refine rw_sub [0] rfl ?_
    exact t_jX5_pairCost_66 (ad := ad) (G := G)  x23 σ _ hr hf
def jX5_leastFrom_145  (v6 : Int32) (σ : rS) : Option (Int32 × rS) := some (v6, σ)
set_option maxHeartbeats 4000000 in
theorem t_jX5_leastFrom_145 {G : rG} {ad : Nat → Nat} {o : (Int32 × rS)}   (v6 : Int32) (σ : rS) (h : rH) (hr : Rep G ad σ h) (hf : jX5_leastFrom_145  v6 σ = some o) : RW G mX5_leastFrom (rm 2 0 0) (qI G ad o) xN 0 0 145 [(6, .int v6)] [] h := by
  unfold jX5_leastFrom_145 at hf
  refine rw_iload dX5_leastFrom_145 0 rfl ?_
  replace hf := Option.some.inj hf
  subst hf
  exact rw_ireturn dX5_leastFrom_147 rfl ⟨rfl, hr⟩ (by decide) (by decide)
def jX5_leastFrom_19  (v1 : Nat) (v2 : Int32) (v3 : Nat) (v4 : Int32) (σ : rS) : Option (Int32 × rS) := if isBo v1 then (if v2 < (σ.1 v1 4) then if isBo v1 then if isTh (v1 + 3) then if inB v2 12 then if inB (((v2 + 1) * 13) + v4) 169 then vI ((σ.2.2.1 (v1 + 3) v2.toNatClampNeg) + (σ.2.2.1 24 (((v2 + 1) * 13) + v4).toNatClampNeg)) fun x11 => if isBo v3 then (if (σ.1 v3 4) ≤ v4 then jX5_leastFrom_145 x11 σ else if isBo v3 then if isTh (v3 + 3) then if inB v4 12 then if inB (((v2 * 13) + v4) + 1) 169 then vI (if ((σ.2.2.1 (v3 + 3) v4.toNatClampNeg) + (σ.2.2.1 24 (((v2 * 13) + v4) + 1).toNatClampNeg)) < x11 then ((σ.2.2.1 (v3 + 3) v4.toNatClampNeg) + (σ.2.2.1 24 (((v2 * 13) + v4) + 1).toNatClampNeg)) else x11) fun x18 => (fX5_pairCost v1 v2 v3 v4 σ).bind fun q19 => if inB ((((v2 + 1) * 13) + v4) + 1) 169 then vI (if (q19.1 + (q19.2.2.2.1 24 ((((v2 + 1) * 13) + v4) + 1).toNatClampNeg)) < x18 then (q19.1 + (q19.2.2.2.1 24 ((((v2 + 1) * 13) + v4) + 1).toNatClampNeg)) else x18) fun x21 => jX5_leastFrom_145 x21 q19.2 else none else none else none else none else none) else none else none else none else none else none else if isBo v3 then if isTh (v3 + 3) then if inB v4 12 then if inB (((v2 * 13) + v4) + 1) 169 then some (((σ.2.2.1 (v3 + 3) v4.toNatClampNeg) + (σ.2.2.1 24 (((v2 * 13) + v4) + 1).toNatClampNeg)), σ) else none else none else none else none) else none
set_option maxHeartbeats 4000000 in
theorem t_jX5_leastFrom_19 {G : rG} {ad : Nat → Nat} {o : (Int32 × rS)}   (v1 : Nat) (v2 : Int32) (v3 : Nat) (v4 : Int32) (σ : rS) (h : rH) (hr : Rep G ad σ h) (hf : jX5_leastFrom_19  v1 v2 v3 v4 σ = some o) : RW G mX5_leastFrom (rm 2 0 0) (qI G ad o) xN 0 0 19 [(0, .ref (ad 18)), (1, .ref (ad v1)), (2, .int v2), (3, .ref (ad v3)), (4, .int v4), (5, .ref (ad 41))] [] h := by
  unfold jX5_leastFrom_19 at hf
  refine rw_iload_n dX5_leastFrom_19 2 rfl rfl ?_
  refine rw_aload_n dX5_leastFrom_20 1 rfl rfl ?_
  obtain ⟨hp5, hf⟩ := grd hf
  refine sg_Bo_4 hr dX5_leastFrom_21 fl150 hp5 ?_
  refine rw_icmp_lt (tgt := 50) dX5_leastFrom_24 (by decide) (fun c6 => ?_) (fun c6 => ?_)
  · rw [if_pos c6] at hf
    refine rw_aload_n dX5_leastFrom_50 1 rfl rfl ?_
    obtain ⟨hp7, hf⟩ := grd hf
    refine sg_Bo_2 hr dX5_leastFrom_51 fl144 hp7 ?_
    refine rw_iload_n dX5_leastFrom_54 2 rfl rfl ?_
    obtain ⟨hp9, hf⟩ := grd hf
    obtain ⟨hi8, hf⟩ := grd hf
    refine sl_Th hr dX5_leastFrom_55 hp9 (inB_in hi8) ?_
    refine rw_aload_n dX5_leastFrom_56 0 rfl rfl ?_
    refine sg_18_6 hr dX5_leastFrom_57 fl292 ?_
    refine rw_iload_n dX5_leastFrom_60 2 rfl rfl ?_
    refine rw_iconst (v := 1) dX5_leastFrom_61 (by decide) ?_
    refine rw_iadd dX5_leastFrom_62 ?_
    refine rw_bipush (v := 13) dX5_leastFrom_63 (by decide) ?_
    refine rw_imul dX5_leastFrom_65 ?_
    refine rw_iload dX5_leastFrom_66 4 rfl ?_
    refine rw_iadd dX5_leastFrom_68 ?_
    obtain ⟨hi10, hf⟩ := grd hf
    refine sl_24 hr dX5_leastFrom_69 (inB_in hi10) ?_
    refine rw_iadd dX5_leastFrom_70 ?_
    refine nmI hf (fun x11 hf => ?_)
    refine rw_istore (lv2 := [(6, .int x11), (0, .ref (ad 18)), (1, .ref (ad v1)), (2, .int v2), (3, .ref (ad v3)), (4, .int v4), (5, .ref (ad 41))]) dX5_leastFrom_71 (by decide) rfl ?_
    refine rw_iload dX5_leastFrom_73 5 rfl ?_
    refine rw_aload_n dX5_leastFrom_75 4 rfl rfl ?_
    obtain ⟨hp12, hf⟩ := grd hf
    refine sg_Bo_4 hr dX5_leastFrom_76 fl150 hp12 ?_
    refine rw_icmp_ge (tgt := 145) dX5_leastFrom_79 (by decide) (fun c13 => ?_) (fun c13 => ?_)
    · rw [if_pos c13] at hf
      refine rw_sub [0] rfl ?_
      exact t_jX5_leastFrom_145 (ad := ad) (G := G)  x11 σ _ hr hf
    · rw [if_neg c13] at hf
      refine rw_iload dX5_leastFrom_82 0 rfl ?_
      refine rw_aload_n dX5_leastFrom_84 4 rfl rfl ?_
      obtain ⟨hp14, hf⟩ := grd hf
      refine sg_Bo_2 hr dX5_leastFrom_85 fl144 hp14 ?_
      refine rw_iload dX5_leastFrom_88 5 rfl ?_
      obtain ⟨hp16, hf⟩ := grd hf
      obtain ⟨hi15, hf⟩ := grd hf
      refine sl_Th hr dX5_leastFrom_90 hp16 (inB_in hi15) ?_
      refine rw_aload_n dX5_leastFrom_91 1 rfl rfl ?_
      refine sg_18_6 hr dX5_leastFrom_92 fl292 ?_
      refine rw_iload_n dX5_leastFrom_95 3 rfl rfl ?_
      refine rw_bipush (v := 13) dX5_leastFrom_96 (by decide) ?_
      refine rw_imul dX5_leastFrom_98 ?_
      refine rw_iload dX5_leastFrom_99 5 rfl ?_
      refine rw_iadd dX5_leastFrom_101 ?_
      refine rw_iconst (v := 1) dX5_leastFrom_102 (by decide) ?_
      refine rw_iadd dX5_leastFrom_103 ?_
      obtain ⟨hi17, hf⟩ := grd hf
      refine sl_24 hr dX5_leastFrom_104 (inB_in hi17) ?_
      refine rw_iadd dX5_leastFrom_105 ?_
      refine rw_mmin dX5_leastFrom_106 wm639 (by decide) (Nat.le_of_ble_eq_true rfl) (by decide) (by decide) ?_
      refine nmI hf (fun x18 hf => ?_)
      refine rw_istore (lv2 := [(6, .int x18), (0, .ref (ad 18)), (1, .ref (ad v1)), (2, .int v2), (3, .ref (ad v3)), (4, .int v4), (5, .ref (ad 41))]) dX5_leastFrom_109 (by decide) rfl ?_
      refine rw_iload dX5_leastFrom_111 0 rfl ?_
      refine rw_aload_n dX5_leastFrom_113 2 rfl rfl ?_
      refine rw_iload_n dX5_leastFrom_114 3 rfl rfl ?_
      refine rw_aload_n dX5_leastFrom_115 4 rfl rfl ?_
      refine rw_iload dX5_leastFrom_116 5 rfl ?_
      refine rw_aload dX5_leastFrom_118 6 rfl ?_
      obtain ⟨q19, hq19, hf⟩ := bnd hf
      refine kS_I (ad := ad) (As := [.ref (ad v1), .int v2, .ref (ad v3), .int v4, .ref (ad 41)]) (st := [.int x18]) dX5_leastFrom_120 calX5_pairCost wm640 wm641 rfl rfl (Nat.le_of_ble_eq_true rfl) ⟨⟨by decide, by decide⟩, by decide, by decide⟩ (cmX5_pairCost hr hq19) (fun h hr => ?_)
      refine rw_aload_n dX5_leastFrom_123 1 rfl rfl ?_
      refine sg_18_6 hr dX5_leastFrom_124 fl292 ?_
      refine rw_iload_n dX5_leastFrom_127 3 rfl rfl ?_
      refine rw_iconst (v := 1) dX5_leastFrom_128 (by decide) ?_
      refine rw_iadd dX5_leastFrom_129 ?_
      refine rw_bipush (v := 13) dX5_leastFrom_130 (by decide) ?_
      refine rw_imul dX5_leastFrom_132 ?_
      refine rw_iload dX5_leastFrom_133 5 rfl ?_
      refine rw_iadd dX5_leastFrom_135 ?_
      refine rw_iconst (v := 1) dX5_leastFrom_136 (by decide) ?_
      refine rw_iadd dX5_leastFrom_137 ?_
      obtain ⟨hi20, hf⟩ := grd hf
      refine sl_24 hr dX5_leastFrom_138 (inB_in hi20) ?_
      refine rw_iadd dX5_leastFrom_139 ?_
      refine rw_mmin dX5_leastFrom_140 wm639 (by decide) (Nat.le_of_ble_eq_true rfl) (by decide) (by decide) ?_
      refine nmI hf (fun x21 hf => ?_)
      refine rw_istore (lv2 := [(6, .int x21), (0, .ref (ad 18)), (1, .ref (ad v1)), (2, .int v2), (3, .ref (ad v3)), (4, .int v4), (5, .ref (ad 41))]) dX5_leastFrom_143 (by decide) rfl ?_
      refine rw_sub [0] rfl ?_
      exact t_jX5_leastFrom_145 (ad := ad) (G := G)  x21 q19.2 _ hr hf
  · rw [if_neg c6] at hf
    refine rw_aload_n dX5_leastFrom_27 3 rfl rfl ?_
    obtain ⟨hp22, hf⟩ := grd hf
    refine sg_Bo_2 hr dX5_leastFrom_28 fl144 hp22 ?_
    refine rw_iload dX5_leastFrom_31 4 rfl ?_
    obtain ⟨hp24, hf⟩ := grd hf
    obtain ⟨hi23, hf⟩ := grd hf
    refine sl_Th hr dX5_leastFrom_33 hp24 (inB_in hi23) ?_
    refine rw_aload_n dX5_leastFrom_34 0 rfl rfl ?_
    refine sg_18_6 hr dX5_leastFrom_35 fl292 ?_
    refine rw_iload_n dX5_leastFrom_38 2 rfl rfl ?_
    refine rw_bipush (v := 13) dX5_leastFrom_39 (by decide) ?_
    refine rw_imul dX5_leastFrom_41 ?_
    refine rw_iload dX5_leastFrom_42 4 rfl ?_
    refine rw_iadd dX5_leastFrom_44 ?_
    refine rw_iconst (v := 1) dX5_leastFrom_45 (by decide) ?_
    refine rw_iadd dX5_leastFrom_46 ?_
    obtain ⟨hi25, hf⟩ := grd hf
    refine sl_24 hr dX5_leastFrom_47 (inB_in hi25) ?_
    refine rw_iadd dX5_leastFrom_48 ?_
    replace hf := Option.some.inj hf
    subst hf
    exact rw_ireturn dX5_leastFrom_49 rfl ⟨rfl, hr⟩ (by decide) (by decide)
def fX5_leastFrom (n1 : Nat) (a1 : Int32) (n3 : Nat) (a3 : Int32) (σ : rS) : Option (Int32 × rS) := if isBo n1 then (if a1 < (σ.1 n1 4) then jX5_leastFrom_19 n1 a1 n3 a3 σ else if isBo n3 then (if a3 < (σ.1 n3 4) then jX5_leastFrom_19 n1 a1 n3 a3 σ else some (0, σ)) else none) else none
set_option maxHeartbeats 4000000 in
theorem cmX5_leastFrom {G : rG} {ad : Nat → Nat} {n1 : Nat} {a1 : Int32} {n3 : Nat} {a3 : Int32} {σ : rS} {h : rH} {o : (Int32 × rS)} (hr : Rep G ad σ h) (hf : fX5_leastFrom n1 a1 n3 a3 σ = some o) : rMT G mX5_leastFrom (rm 2 0 0) [.ref (ad 18), .ref (ad n1), .int a1, .ref (ad n3), .int a3, .ref (ad 41)] h (qI G ad o) xN := by
  unfold fX5_leastFrom at hf
  refine rw_met (by decide +kernel) rfl (Nat.le_of_ble_eq_true rfl) ?_
  show RW G _ _ _ _ 0 0 0 [(0, .ref (ad 18)), (1, .ref (ad n1)), (2, .int a1), (3, .ref (ad n3)), (4, .int a3), (5, .ref (ad 41))] [] h
  refine rw_iload_n dX5_leastFrom_0 2 rfl rfl ?_
  refine rw_aload_n dX5_leastFrom_1 1 rfl rfl ?_
  obtain ⟨hp1, hf⟩ := grd hf
  refine sg_Bo_4 hr dX5_leastFrom_2 fl150 hp1 ?_
  refine rw_icmp_lt (tgt := 19) dX5_leastFrom_5 (by decide) (fun c2 => ?_) (fun c2 => ?_)
  · rw [if_pos c2] at hf
    exact t_jX5_leastFrom_19 (ad := ad) (G := G)  n1 a1 n3 a3 σ _ hr hf
  · rw [if_neg c2] at hf
    refine rw_iload dX5_leastFrom_8 4 rfl ?_
    refine rw_aload_n dX5_leastFrom_10 3 rfl rfl ?_
    obtain ⟨hp3, hf⟩ := grd hf
    refine sg_Bo_4 hr dX5_leastFrom_11 fl150 hp3 ?_
    refine rw_icmp_lt (tgt := 19) dX5_leastFrom_14 (by decide) (fun c4 => ?_) (fun c4 => ?_)
    · rw [if_pos c4] at hf
      exact t_jX5_leastFrom_19 (ad := ad) (G := G)  n1 a1 n3 a3 σ _ hr hf
    · rw [if_neg c4] at hf
      refine rw_iconst (v := 0) dX5_leastFrom_17 (by decide) ?_
      replace hf := Option.some.inj hf
      subst hf
      exact rw_ireturn dX5_leastFrom_18 rfl ⟨rfl, hr⟩ (by decide) (by decide)
def lX5_weigh_17 (k6 : Nat → Nat → Int32 → rS → Option (Unit × rS)) : Nat → Nat → Nat → Int32 → Int32 → rS → Option (Unit × rS)
  | 0, _, _, _, _, _ => none
  | n + 1, v1, v2, v4, v5, σ => if v5 < 0 then vI (v4 + (-1)) fun x7 => k6 v1 v2 x7 σ else (fX5_leastFrom v1 v4 v2 v5 σ).bind fun q8 => if inB ((v4 * 13) + v5) 169 then vS (uA q8.2 24 ((v4 * 13) + v5).toNatClampNeg q8.1) fun σ10 => vI (v5 + (-1)) fun x11 => (lX5_weigh_17 k6 n) v1 v2 v4 x11 σ10 else none
set_option maxHeartbeats 4000000 in
theorem t_lX5_weigh_17 {G : rG} {ad : Nat → Nat} {o : (Unit × rS)} (k6 : Nat → Nat → Int32 → rS → Option (Unit × rS)) (hk6 : ∀ (v1 : Nat) (v2 : Nat) (v4 : Int32) (σ : rS) (h : rH), Rep G ad σ h → k6 v1 v2 v4 σ = some o → RW G mX5_weigh (rm 3 0 0) (qV G ad o) xN 0 0 6 [(0, .ref (ad 18)), (1, .ref (ad v1)), (2, .ref (ad v2)), (3, .ref (ad 41)), (4, .int v4)] [] h) : ∀ (n : Nat) (v1 : Nat) (v2 : Nat) (v4 : Int32) (v5 : Int32) (σ : rS) (h : rH), Rep G ad σ h → lX5_weigh_17 k6 n v1 v2 v4 v5 σ = some o → RW G mX5_weigh (rm 3 0 0) (qV G ad o) xN 0 0 17 [(0, .ref (ad 18)), (1, .ref (ad v1)), (2, .ref (ad v2)), (3, .ref (ad 41)), (4, .int v4), (5, .int v5)] [] h := by
  intro n
  induction n with
  | zero =>
    intro v1 v2 v4 v5 σ h hr hf
    rw [lX5_weigh_17] at hf
    cases hf
  | succ n ih =>
    intro v1 v2 v4 v5 σ h hr hf
    rw [lX5_weigh_17] at hf
    refine rw_iload dX5_weigh_17 5 rfl ?_
    refine rw_if_lt (tgt := 52) dX5_weigh_19 (by decide) (fun c6 => ?_) (fun c6 => ?_)
    · rw [if_pos c6] at hf
      refine rw_iinc (v := v4 + (-1)) (lv2 := [(4, .int (v4 + (-1))), (0, .ref (ad 18)), (1, .ref (ad v1)), (2, .ref (ad v2)), (3, .ref (ad 41)), (5, .int v5)]) dX5_weigh_52 4 rfl rfl (by decide) rfl ?_
      refine nmL hf (fun x7 hf => ?_)
      refine rw_goto (tgt := 6) dX5_weigh_55 (by decide) ?_
      refine rw_sub [1, 2, 3, 4, 0] rfl ?_
      exact hk6 v1 v2 x7 σ _ hr hf
    · rw [if_neg c6] at hf
      refine rw_aload_n dX5_weigh_22 0 rfl rfl ?_
      refine sg_18_6 hr dX5_weigh_23 fl292 ?_
      refine rw_iload dX5_weigh_26 4 rfl ?_
      refine rw_bipush (v := 13) dX5_weigh_28 (by decide) ?_
      refine rw_imul dX5_weigh_30 ?_
      refine rw_iload dX5_weigh_31 5 rfl ?_
      refine rw_iadd dX5_weigh_33 ?_
      refine rw_aload_n dX5_weigh_34 0 rfl rfl ?_
      refine rw_aload_n dX5_weigh_35 1 rfl rfl ?_
      refine rw_iload dX5_weigh_36 4 rfl ?_
      refine rw_aload_n dX5_weigh_38 2 rfl rfl ?_
      refine rw_iload dX5_weigh_39 5 rfl ?_
      refine rw_aload_n dX5_weigh_41 3 rfl rfl ?_
      obtain ⟨q8, hq8, hf⟩ := bnd hf
      refine kV_I (ad := ad) (As := [.ref (ad v1), .int v4, .ref (ad v2), .int v5, .ref (ad 41)]) (st := [.int ((v4 * 13) + v5), .ref (ad 24)]) dX5_weigh_42 calX5_leastFrom wm635 wm637 wm9 rfl rfl (rc_18 hr) (ci := 5) (by decide) rfl rfl (Nat.le_of_ble_eq_true rfl) ⟨⟨by decide, by decide⟩, by decide, by decide⟩ (cmX5_leastFrom hr hq8) (fun h hr => ?_)
      obtain ⟨hi9, hf⟩ := grd hf
      refine ss_24 hr dX5_weigh_45 (inB_in hi9) (fun h hr => ?_)
      refine nmS hf hr (fun σ10 hr hf => ?_)
      refine rw_iinc (v := v5 + (-1)) (lv2 := [(5, .int (v5 + (-1))), (0, .ref (ad 18)), (1, .ref (ad v1)), (2, .ref (ad v2)), (3, .ref (ad 41)), (4, .int v4)]) dX5_weigh_46 5 rfl rfl (by decide) rfl ?_
      refine nmL hf (fun x11 hf => ?_)
      refine rw_goto (tgt := 17) dX5_weigh_49 (by decide) ?_
      refine rw_sub [1, 2, 3, 4, 5, 0] rfl ?_
      exact ih v1 v2 v4 x11 σ10 _ hr hf
def lX5_weigh_6  : Nat → Nat → Nat → Int32 → rS → Option (Unit × rS)
  | 0, _, _, _, _ => none
  | n + 1, v1, v2, v4, σ => if v4 < 0 then some ((), σ) else if isBo v2 then vI (σ.1 v2 4) fun x5 => lX5_weigh_17 (lX5_weigh_6 n) 1000 v1 v2 v4 x5 σ else none
set_option maxHeartbeats 4000000 in
theorem t_lX5_weigh_6 {G : rG} {ad : Nat → Nat} {o : (Unit × rS)}   : ∀ (n : Nat) (v1 : Nat) (v2 : Nat) (v4 : Int32) (σ : rS) (h : rH), Rep G ad σ h → lX5_weigh_6  n v1 v2 v4 σ = some o → RW G mX5_weigh (rm 3 0 0) (qV G ad o) xN 0 0 6 [(0, .ref (ad 18)), (1, .ref (ad v1)), (2, .ref (ad v2)), (3, .ref (ad 41)), (4, .int v4)] [] h := by
  intro n
  induction n with
  | zero =>
    intro v1 v2 v4 σ h hr hf
    rw [lX5_weigh_6] at hf
    cases hf
  | succ n ih =>
    intro v1 v2 v4 σ h hr hf
    rw [lX5_weigh_6] at hf
    refine rw_iload dX5_weigh_6 4 rfl ?_
    refine rw_if_lt (tgt := 58) dX5_weigh_8 (by decide) (fun c3 => ?_) (fun c3 => ?_)
    · rw [if_pos c3] at hf
      replace hf := Option.some.inj hf
      subst hf
      exact rw_return dX5_weigh_58 rfl ⟨rfl, hr⟩ (by decide) (by decide)
    · rw [if_neg c3] at hf
      refine rw_aload_n dX5_weigh_11 2 rfl rfl ?_
      obtain ⟨hp4, hf⟩ := grd hf
      refine sg_Bo_4 hr dX5_weigh_12 fl150 hp4 ?_
      refine nmI hf (fun x5 hf => ?_)
      refine rw_istore (lv2 := [(5, .int x5), (0, .ref (ad 18)), (1, .ref (ad v1)), (2, .ref (ad v2)), (3, .ref (ad 41)), (4, .int v4)]) dX5_weigh_15 (by decide) rfl ?_
      refine rw_sub [1, 2, 3, 4, 5, 0] rfl ?_
      exact t_lX5_weigh_17 (ad := ad) (G := G) (lX5_weigh_6 n) ih 1000 v1 v2 v4 x5 σ _ hr hf
def fX5_weigh (n1 : Nat) (n2 : Nat) (σ : rS) : Option (Unit × rS) := if isBo n1 then vI (σ.1 n1 4) fun x2 => lX5_weigh_6 1000 n1 n2 x2 σ else none
set_option maxHeartbeats 4000000 in
theorem cmX5_weigh {G : rG} {ad : Nat → Nat} {n1 : Nat} {n2 : Nat} {σ : rS} {h : rH} {o : (Unit × rS)} (hr : Rep G ad σ h) (hf : fX5_weigh n1 n2 σ = some o) : rMT G mX5_weigh (rm 3 0 0) [.ref (ad 18), .ref (ad n1), .ref (ad n2), .ref (ad 41)] h (qV G ad o) xN := by
  unfold fX5_weigh at hf
  refine rw_met (by decide +kernel) rfl (Nat.le_of_ble_eq_true rfl) ?_
  show RW G _ _ _ _ 0 0 0 [(0, .ref (ad 18)), (1, .ref (ad n1)), (2, .ref (ad n2)), (3, .ref (ad 41))] [] h
  refine rw_aload_n dX5_weigh_0 1 rfl rfl ?_
  obtain ⟨hp1, hf⟩ := grd hf
  refine sg_Bo_4 hr dX5_weigh_1 fl150 hp1 ?_
  refine nmI hf (fun x2 hf => ?_)
  refine rw_istore (lv2 := [(4, .int x2), (0, .ref (ad 18)), (1, .ref (ad n1)), (2, .ref (ad n2)), (3, .ref (ad 41))]) dX5_weigh_4 (by decide) rfl ?_
  refine rw_sub [1, 2, 3, 4, 0] rfl ?_
  exact t_lX5_weigh_6 (ad := ad) (G := G)  1000 n1 n2 x2 σ _ hr hf
def lX5_bestPartner_7  : Nat → Nat → Int32 → Nat → Int32 → Int32 → Int32 → rS → Option (Int32 × rS)
  | 0, _, _, _, _, _, _, _ => none
  | n + 1, v1, v2, v3, v4, v6, v7, σ => if isBo v3 then (if (σ.1 v3 4) ≤ v7 then some (((-1)), σ) else if inB ((((v2 + 1) * 13) + v7) + 1) 169 then vI (σ.2.2.1 24 ((((v2 + 1) * 13) + v7) + 1).toNatClampNeg) fun x4 => (fX5_pairCost v1 v2 v3 v7 σ).bind fun q5 => if inB ((v2 * 13) + v4) 169 then (if ((v6 + q5.1) + x4) = (q5.2.2.2.1 24 ((v2 * 13) + v4).toNatClampNeg) then some (v7, q5.2) else if isBo v3 then if isTh (v3 + 3) then if inB v7 12 then vI (v6 + (q5.2.2.2.1 (v3 + 3) v7.toNatClampNeg)) fun x11 => vI (v7 + 1) fun x12 => (lX5_bestPartner_7 n) v1 v2 v3 v4 x11 x12 q5.2 else none else none else none) else none else none) else none
set_option maxHeartbeats 4000000 in
theorem t_lX5_bestPartner_7 {G : rG} {ad : Nat → Nat} {o : (Int32 × rS)}   : ∀ (n : Nat) (v1 : Nat) (v2 : Int32) (v3 : Nat) (v4 : Int32) (v6 : Int32) (v7 : Int32) (σ : rS) (h : rH), Rep G ad σ h → lX5_bestPartner_7  n v1 v2 v3 v4 v6 v7 σ = some o → RW G mX5_bestPartner (rm 2 0 0) (qI G ad o) xN 0 0 7 [(0, .ref (ad 18)), (1, .ref (ad v1)), (2, .int v2), (3, .ref (ad v3)), (4, .int v4), (5, .ref (ad 41)), (6, .int v6), (7, .int v7)] [] h := by
  intro n
  induction n with
  | zero =>
    intro v1 v2 v3 v4 v6 v7 σ h hr hf
    rw [lX5_bestPartner_7] at hf
    cases hf
  | succ n ih =>
    intro v1 v2 v3 v4 v6 v7 σ h hr hf
    rw [lX5_bestPartner_7] at hf
    refine rw_iload dX5_bestPartner_7 7 rfl ?_
    refine rw_aload_n dX5_bestPartner_9 3 rfl rfl ?_
    obtain ⟨hp1, hf⟩ := grd hf
    refine sg_Bo_4 hr dX5_bestPartner_10 fl150 hp1 ?_
    refine rw_icmp_ge (tgt := 86) dX5_bestPartner_13 (by decide) (fun c2 => ?_) (fun c2 => ?_)
    · rw [if_pos c2] at hf
      refine rw_iconst (v := (-1)) dX5_bestPartner_86 (by decide) ?_
      replace hf := Option.some.inj hf
      subst hf
      exact rw_ireturn dX5_bestPartner_87 rfl ⟨rfl, hr⟩ (by decide) (by decide)
    · rw [if_neg c2] at hf
      refine rw_aload_n dX5_bestPartner_16 0 rfl rfl ?_
      refine sg_18_6 hr dX5_bestPartner_17 fl292 ?_
      refine rw_iload_n dX5_bestPartner_20 2 rfl rfl ?_
      refine rw_iconst (v := 1) dX5_bestPartner_21 (by decide) ?_
      refine rw_iadd dX5_bestPartner_22 ?_
      refine rw_bipush (v := 13) dX5_bestPartner_23 (by decide) ?_
      refine rw_imul dX5_bestPartner_25 ?_
      refine rw_iload dX5_bestPartner_26 7 rfl ?_
      refine rw_iadd dX5_bestPartner_28 ?_
      refine rw_iconst (v := 1) dX5_bestPartner_29 (by decide) ?_
      refine rw_iadd dX5_bestPartner_30 ?_
      obtain ⟨hi3, hf⟩ := grd hf
      refine sl_24 hr dX5_bestPartner_31 (inB_in hi3) ?_
      refine nmI hf (fun x4 hf => ?_)
      refine rw_istore (lv2 := [(8, .int x4), (0, .ref (ad 18)), (1, .ref (ad v1)), (2, .int v2), (3, .ref (ad v3)), (4, .int v4), (5, .ref (ad 41)), (6, .int v6), (7, .int v7)]) dX5_bestPartner_32 (by decide) rfl ?_
      refine rw_iload dX5_bestPartner_34 7 rfl ?_
      refine rw_aload_n dX5_bestPartner_36 2 rfl rfl ?_
      refine rw_iload_n dX5_bestPartner_37 3 rfl rfl ?_
      refine rw_aload_n dX5_bestPartner_38 4 rfl rfl ?_
      refine rw_iload dX5_bestPartner_39 8 rfl ?_
      refine rw_aload dX5_bestPartner_41 6 rfl ?_
      obtain ⟨q5, hq5, hf⟩ := bnd hf
      refine kS_I (ad := ad) (As := [.ref (ad v1), .int v2, .ref (ad v3), .int v7, .ref (ad 41)]) (st := [.int v6]) dX5_bestPartner_43 calX5_pairCost wm640 wm641 rfl rfl (Nat.le_of_ble_eq_true rfl) ⟨⟨by decide, by decide⟩, by decide, by decide⟩ (cmX5_pairCost hr hq5) (fun h hr => ?_)
      refine rw_iadd dX5_bestPartner_46 ?_
      refine rw_iload dX5_bestPartner_47 0 rfl ?_
      refine rw_iadd dX5_bestPartner_49 ?_
      refine rw_aload_n dX5_bestPartner_50 1 rfl rfl ?_
      refine sg_18_6 hr dX5_bestPartner_51 fl292 ?_
      refine rw_iload_n dX5_bestPartner_54 3 rfl rfl ?_
      refine rw_bipush (v := 13) dX5_bestPartner_55 (by decide) ?_
      refine rw_imul dX5_bestPartner_57 ?_
      refine rw_iload dX5_bestPartner_58 5 rfl ?_
      refine rw_iadd dX5_bestPartner_60 ?_
      obtain ⟨hi6, hf⟩ := grd hf
      refine sl_24 hr dX5_bestPartner_61 (inB_in hi6) ?_
      refine rw_icmp_ne (tgt := 68) dX5_bestPartner_62 (by decide) (fun c7 => ?_) (fun c7 => ?_)
      · rw [if_neg c7] at hf
        refine rw_iload dX5_bestPartner_68 7 rfl ?_
        refine rw_aload_n dX5_bestPartner_70 4 rfl rfl ?_
        obtain ⟨hp8, hf⟩ := grd hf
        refine sg_Bo_2 hr dX5_bestPartner_71 fl144 hp8 ?_
        refine rw_iload dX5_bestPartner_74 8 rfl ?_
        obtain ⟨hp10, hf⟩ := grd hf
        obtain ⟨hi9, hf⟩ := grd hf
        refine sl_Th hr dX5_bestPartner_76 hp10 (inB_in hi9) ?_
        refine rw_iadd dX5_bestPartner_77 ?_
        refine nmI hf (fun x11 hf => ?_)
        refine rw_istore (lv2 := [(6, .int x11), (8, .int x4), (0, .ref (ad 18)), (1, .ref (ad v1)), (2, .int v2), (3, .ref (ad v3)), (4, .int v4), (5, .ref (ad 41)), (7, .int v7)]) dX5_bestPartner_78 (by decide) rfl ?_
        refine rw_iinc (v := v7 + 1) (lv2 := [(7, .int (v7 + 1)), (6, .int x11), (8, .int x4), (0, .ref (ad 18)), (1, .ref (ad v1)), (2, .int v2), (3, .ref (ad v3)), (4, .int v4), (5, .ref (ad 41))]) dX5_bestPartner_80 8 rfl rfl (by decide) rfl ?_
        refine nmL hf (fun x12 hf => ?_)
        refine rw_goto (tgt := 7) dX5_bestPartner_83 (by decide) ?_
        refine rw_sub [3, 4, 5, 6, 7, 8, 1, 0] rfl ?_
        exact ih v1 v2 v3 v4 x11 x12 q5.2 _ hr hf
      · rw [if_pos c7] at hf
        refine rw_iload dX5_bestPartner_65 8 rfl ?_
        replace hf := Option.some.inj hf
        subst hf
        exact rw_ireturn dX5_bestPartner_67 rfl ⟨rfl, hr⟩ (by decide) (by decide)
def fX5_bestPartner (n1 : Nat) (a1 : Int32) (n3 : Nat) (a3 : Int32) (σ : rS) : Option (Int32 × rS) := lX5_bestPartner_7 1000 n1 a1 n3 a3 0 a3 σ
set_option maxHeartbeats 4000000 in
theorem cmX5_bestPartner {G : rG} {ad : Nat → Nat} {n1 : Nat} {a1 : Int32} {n3 : Nat} {a3 : Int32} {σ : rS} {h : rH} {o : (Int32 × rS)} (hr : Rep G ad σ h) (hf : fX5_bestPartner n1 a1 n3 a3 σ = some o) : rMT G mX5_bestPartner (rm 2 0 0) [.ref (ad 18), .ref (ad n1), .int a1, .ref (ad n3), .int a3, .ref (ad 41)] h (qI G ad o) xN := by
  unfold fX5_bestPartner at hf
  refine rw_met (by decide +kernel) rfl (Nat.le_of_ble_eq_true rfl) ?_
  show RW G _ _ _ _ 0 0 0 [(0, .ref (ad 18)), (1, .ref (ad n1)), (2, .int a1), (3, .ref (ad n3)), (4, .int a3), (5, .ref (ad 41))] [] h
  refine rw_iconst (v := 0) dX5_bestPartner_0 (by decide) ?_
  refine rw_istore (lv2 := [(6, .int 0), (0, .ref (ad 18)), (1, .ref (ad n1)), (2, .int a1), (3, .ref (ad n3)), (4, .int a3), (5, .ref (ad 41))]) dX5_bestPartner_1 (by decide) rfl ?_
  refine rw_iload dX5_bestPartner_3 5 rfl ?_
  refine rw_istore (lv2 := [(7, .int a3), (6, .int 0), (0, .ref (ad 18)), (1, .ref (ad n1)), (2, .int a1), (3, .ref (ad n3)), (4, .int a3), (5, .ref (ad 41))]) dX5_bestPartner_5 (by decide) rfl ?_
  refine rw_sub [2, 3, 4, 5, 6, 7, 1, 0] rfl ?_
  exact t_lX5_bestPartner_7 (ad := ad) (G := G)  1000 n1 a1 n3 a3 0 a3 σ _ hr hf
def jX5_choose_100 (k41 : Nat → Nat → Int32 → Int32 → Int32 → rS → Option (Unit × rS)) (v2 : Nat) (v3 : Nat) (v5 : Int32) (v6 : Int32) (v7 : Int32) (σ : rS) : Option (Unit × rS) := vI (v7 + 1) fun x17 => k41 v2 v3 v5 v6 x17 σ
set_option maxHeartbeats 4000000 in
theorem t_jX5_choose_100 {G : rG} {ad : Nat → Nat} {o : (Unit × rS)} (k41 : Nat → Nat → Int32 → Int32 → Int32 → rS → Option (Unit × rS)) (hk41 : ∀ (v2 : Nat) (v3 : Nat) (v5 : Int32) (v6 : Int32) (v7 : Int32) (σ : rS) (h : rH), Rep G ad σ h → k41 v2 v3 v5 v6 v7 σ = some o → RW G mX5_choose (rm 3 0 0) (qV G ad o) xN 0 0 41 [(0, .ref (ad 18)), (2, .ref (ad v2)), (3, .ref (ad v3)), (4, .ref (ad 41)), (5, .int v5), (6, .int v6), (7, .int v7)] [] h) (v2 : Nat) (v3 : Nat) (v5 : Int32) (v6 : Int32) (v7 : Int32) (σ : rS) (h : rH) (hr : Rep G ad σ h) (hf : jX5_choose_100 k41 v2 v3 v5 v6 v7 σ = some o) : RW G mX5_choose (rm 3 0 0) (qV G ad o) xN 0 0 100 [(0, .ref (ad 18)), (2, .ref (ad v2)), (3, .ref (ad v3)), (4, .ref (ad 41)), (5, .int v5), (6, .int v6), (7, .int v7)] [] h := by
  unfold jX5_choose_100 at hf
  refine rw_iinc (v := v7 + 1) (lv2 := [(7, .int (v7 + 1)), (0, .ref (ad 18)), (2, .ref (ad v2)), (3, .ref (ad v3)), (4, .ref (ad 41)), (5, .int v5), (6, .int v6)]) dX5_choose_100 6 rfl rfl (by decide) rfl ?_
  refine nmL hf (fun x17 hf => ?_)
  refine rw_goto (tgt := 41) dX5_choose_103 (by decide) ?_
  refine rw_sub [1, 2, 3, 4, 5, 6, 0] rfl ?_
  exact hk41 v2 v3 v5 v6 x17 σ _ hr hf
def lX5_choose_41  : Nat → Nat → Nat → Int32 → Int32 → Int32 → rS → Option (Unit × rS)
  | 0, _, _, _, _, _, _ => none
  | n + 1, v2, v3, v5, v6, v7, σ => if isBo v2 then (if (σ.1 v2 4) ≤ v7 then some ((), σ) else (fX5_bestPartner v2 v7 v3 v6 σ).bind fun q9 => vI q9.1 fun x10 => if inB (v5 + v7) 504 then vS (uA q9.2 22 (v5 + v7).toNatClampNeg x10) fun σ12 => (if x10 = ((-1)) then jX5_choose_100 (lX5_choose_41 n) v2 v3 v5 v6 v7 σ12 else if inB (v5 + x10) 504 then vS (uA σ12 23 (v5 + x10).toNatClampNeg v7) fun σ15 => vI (x10 + 1) fun x16 => jX5_choose_100 (lX5_choose_41 n) v2 v3 v5 x16 v7 σ15 else none) else none) else none
set_option maxHeartbeats 4000000 in
theorem t_lX5_choose_41 {G : rG} {ad : Nat → Nat} {o : (Unit × rS)}   : ∀ (n : Nat) (v2 : Nat) (v3 : Nat) (v5 : Int32) (v6 : Int32) (v7 : Int32) (σ : rS) (h : rH), Rep G ad σ h → lX5_choose_41  n v2 v3 v5 v6 v7 σ = some o → RW G mX5_choose (rm 3 0 0) (qV G ad o) xN 0 0 41 [(0, .ref (ad 18)), (2, .ref (ad v2)), (3, .ref (ad v3)), (4, .ref (ad 41)), (5, .int v5), (6, .int v6), (7, .int v7)] [] h := by
  intro n
  induction n with
  | zero =>
    intro v2 v3 v5 v6 v7 σ h hr hf
    rw [lX5_choose_41] at hf
    cases hf
  | succ n ih =>
    intro v2 v3 v5 v6 v7 σ h hr hf
    rw [lX5_choose_41] at hf
    refine rw_iload dX5_choose_41 6 rfl ?_
    refine rw_aload_n dX5_choose_43 1 rfl rfl ?_
    obtain ⟨hp7, hf⟩ := grd hf
    refine sg_Bo_4 hr dX5_choose_44 fl150 hp7 ?_
    refine rw_icmp_ge (tgt := 106) dX5_choose_47 (by decide) (fun c8 => ?_) (fun c8 => ?_)
    · rw [if_pos c8] at hf
      replace hf := Option.some.inj hf
      subst hf
      exact rw_return dX5_choose_106 rfl ⟨rfl, hr⟩ (by decide) (by decide)
    · rw [if_neg c8] at hf
      refine rw_aload_n dX5_choose_50 0 rfl rfl ?_
      refine rw_aload_n dX5_choose_51 1 rfl rfl ?_
      refine rw_iload dX5_choose_52 6 rfl ?_
      refine rw_aload_n dX5_choose_54 2 rfl rfl ?_
      refine rw_iload dX5_choose_55 5 rfl ?_
      refine rw_aload dX5_choose_57 3 rfl ?_
      obtain ⟨q9, hq9, hf⟩ := bnd hf
      refine kV_I (ad := ad) (As := [.ref (ad v2), .int v7, .ref (ad v3), .int v6, .ref (ad 41)]) (st := []) dX5_choose_59 calX5_bestPartner wm648 wm650 wm11 rfl rfl (rc_18 hr) (ci := 5) (by decide) rfl rfl (Nat.le_of_ble_eq_true rfl) ⟨⟨by decide, by decide⟩, by decide, by decide⟩ (cmX5_bestPartner hr hq9) (fun h hr => ?_)
      refine nmI hf (fun x10 hf => ?_)
      refine rw_istore (lv2 := [(8, .int x10), (0, .ref (ad 18)), (2, .ref (ad v2)), (3, .ref (ad v3)), (4, .ref (ad 41)), (5, .int v5), (6, .int v6), (7, .int v7)]) dX5_choose_62 (by decide) rfl ?_
      refine rw_aload_n dX5_choose_64 1 rfl rfl ?_
      refine sg_18_4 hr dX5_choose_65 fl290 ?_
      refine rw_iload dX5_choose_68 5 rfl ?_
      refine rw_iload dX5_choose_70 7 rfl ?_
      refine rw_iadd dX5_choose_72 ?_
      refine rw_iload dX5_choose_73 0 rfl ?_
      obtain ⟨hi11, hf⟩ := grd hf
      refine ss_22 hr dX5_choose_75 (inB_in hi11) (fun h hr => ?_)
      refine nmS hf hr (fun σ12 hr hf => ?_)
      refine rw_iload dX5_choose_76 0 rfl ?_
      refine rw_iconst (v := (-1)) dX5_choose_78 (by decide) ?_
      refine rw_icmp_eq (tgt := 100) dX5_choose_79 (by decide) (fun c13 => ?_) (fun c13 => ?_)
      · rw [if_pos c13] at hf
        refine rw_sub [1, 2, 3, 4, 5, 6, 7] rfl ?_
        exact t_jX5_choose_100 (ad := ad) (G := G) (lX5_choose_41 n) ih v2 v3 v5 v6 v7 σ12 _ hr hf
      · rw [if_neg c13] at hf
        refine rw_aload_n dX5_choose_82 1 rfl rfl ?_
        refine sg_18_5 hr dX5_choose_83 fl291 ?_
        refine rw_iload dX5_choose_86 5 rfl ?_
        refine rw_iload dX5_choose_88 0 rfl ?_
        refine rw_iadd dX5_choose_90 ?_
        refine rw_iload dX5_choose_91 7 rfl ?_
        obtain ⟨hi14, hf⟩ := grd hf
        refine ss_23 hr dX5_choose_93 (inB_in hi14) (fun h hr => ?_)
        refine nmS hf hr (fun σ15 hr hf => ?_)
        refine rw_iload dX5_choose_94 0 rfl ?_
        refine rw_iconst (v := 1) dX5_choose_96 (by decide) ?_
        refine rw_iadd dX5_choose_97 ?_
        refine nmI hf (fun x16 hf => ?_)
        refine rw_istore (lv2 := [(6, .int x16), (8, .int x10), (0, .ref (ad 18)), (2, .ref (ad v2)), (3, .ref (ad v3)), (4, .ref (ad 41)), (5, .int v5), (7, .int v7)]) dX5_choose_98 (by decide) rfl ?_
        refine rw_sub [2, 3, 4, 5, 6, 0, 7] rfl ?_
        exact t_jX5_choose_100 (ad := ad) (G := G) (lX5_choose_41 n) ih v2 v3 v5 x16 v7 σ15 _ hr hf
def lX5_choose_9  : Nat → Nat → Nat → Int32 → Int32 → rS → Option (Unit × rS)
  | 0, _, _, _, _, _ => none
  | n + 1, v2, v3, v5, v6, σ => if isBo v3 then (if (σ.1 v3 4) ≤ v6 then lX5_choose_41 1000 v2 v3 v5 0 0 σ else if inB (v5 + v6) 504 then vS (uA σ 23 (v5 + v6).toNatClampNeg ((-1))) fun σ5 => vI (v6 + 1) fun x6 => (lX5_choose_9 n) v2 v3 v5 x6 σ5 else none) else none
set_option maxHeartbeats 4000000 in
theorem t_lX5_choose_9 {G : rG} {ad : Nat → Nat} {o : (Unit × rS)}   : ∀ (n : Nat) (v2 : Nat) (v3 : Nat) (v5 : Int32) (v6 : Int32) (σ : rS) (h : rH), Rep G ad σ h → lX5_choose_9  n v2 v3 v5 v6 σ = some o → RW G mX5_choose (rm 3 0 0) (qV G ad o) xN 0 0 9 [(0, .ref (ad 18)), (2, .ref (ad v2)), (3, .ref (ad v3)), (4, .ref (ad 41)), (5, .int v5), (6, .int v6)] [] h := by
  intro n
  induction n with
  | zero =>
    intro v2 v3 v5 v6 σ h hr hf
    rw [lX5_choose_9] at hf
    cases hf
  | succ n ih =>
    intro v2 v3 v5 v6 σ h hr hf
    rw [lX5_choose_9] at hf
    refine rw_iload dX5_choose_9 5 rfl ?_
    refine rw_aload_n dX5_choose_11 2 rfl rfl ?_
    obtain ⟨hp2, hf⟩ := grd hf
    refine sg_Bo_4 hr dX5_choose_12 fl150 hp2 ?_
    refine rw_icmp_ge (tgt := 35) dX5_choose_15 (by decide) (fun c3 => ?_) (fun c3 => ?_)
    · rw [if_pos c3] at hf
      refine rw_iconst (v := 0) dX5_choose_35 (by decide) ?_
      refine rw_istore (lv2 := [(6, .int 0), (0, .ref (ad 18)), (2, .ref (ad v2)), (3, .ref (ad v3)), (4, .ref (ad 41)), (5, .int v5)]) dX5_choose_36 (by decide) rfl ?_
      refine rw_iconst (v := 0) dX5_choose_38 (by decide) ?_
      refine rw_istore (lv2 := [(7, .int 0), (6, .int 0), (0, .ref (ad 18)), (2, .ref (ad v2)), (3, .ref (ad v3)), (4, .ref (ad 41)), (5, .int v5)]) dX5_choose_39 (by decide) rfl ?_
      refine rw_sub [2, 3, 4, 5, 6, 1, 0] rfl ?_
      exact t_lX5_choose_41 (ad := ad) (G := G)  1000 v2 v3 v5 0 0 σ _ hr hf
    · rw [if_neg c3] at hf
      refine rw_aload_n dX5_choose_18 0 rfl rfl ?_
      refine sg_18_5 hr dX5_choose_19 fl291 ?_
      refine rw_iload dX5_choose_22 4 rfl ?_
      refine rw_iload dX5_choose_24 5 rfl ?_
      refine rw_iadd dX5_choose_26 ?_
      refine rw_iconst (v := (-1)) dX5_choose_27 (by decide) ?_
      obtain ⟨hi4, hf⟩ := grd hf
      refine ss_23 hr dX5_choose_28 (inB_in hi4) (fun h hr => ?_)
      refine nmS hf hr (fun σ5 hr hf => ?_)
      refine rw_iinc (v := v6 + 1) (lv2 := [(6, .int (v6 + 1)), (0, .ref (ad 18)), (2, .ref (ad v2)), (3, .ref (ad v3)), (4, .ref (ad 41)), (5, .int v5)]) dX5_choose_29 5 rfl rfl (by decide) rfl ?_
      refine nmL hf (fun x6 hf => ?_)
      refine rw_goto (tgt := 9) dX5_choose_32 (by decide) ?_
      refine rw_sub [1, 2, 3, 4, 5, 0] rfl ?_
      exact ih v2 v3 v5 x6 σ5 _ hr hf
def fX5_choose (a0 : Int32) (n2 : Nat) (n3 : Nat) (σ : rS) : Option (Unit × rS) := vI (a0 * 12) fun x1 => lX5_choose_9 1000 n2 n3 x1 0 σ
set_option maxHeartbeats 4000000 in
theorem cmX5_choose {G : rG} {ad : Nat → Nat} {a0 : Int32} {n2 : Nat} {n3 : Nat} {σ : rS} {h : rH} {o : (Unit × rS)} (hr : Rep G ad σ h) (hf : fX5_choose a0 n2 n3 σ = some o) : rMT G mX5_choose (rm 3 0 0) [.ref (ad 18), .int a0, .ref (ad n2), .ref (ad n3), .ref (ad 41)] h (qV G ad o) xN := by
  unfold fX5_choose at hf
  refine rw_met (by decide +kernel) rfl (Nat.le_of_ble_eq_true rfl) ?_
  show RW G _ _ _ _ 0 0 0 [(0, .ref (ad 18)), (1, .int a0), (2, .ref (ad n2)), (3, .ref (ad n3)), (4, .ref (ad 41))] [] h
  refine rw_iload_n dX5_choose_0 1 rfl rfl ?_
  refine rw_bipush (v := 12) dX5_choose_1 (by decide) ?_
  refine rw_imul dX5_choose_3 ?_
  refine nmI hf (fun x1 hf => ?_)
  refine rw_istore (lv2 := [(5, .int x1), (0, .ref (ad 18)), (1, .int a0), (2, .ref (ad n2)), (3, .ref (ad n3)), (4, .ref (ad 41))]) dX5_choose_4 (by decide) rfl ?_
  refine rw_iconst (v := 0) dX5_choose_6 (by decide) ?_
  refine rw_istore (lv2 := [(6, .int 0), (5, .int x1), (0, .ref (ad 18)), (1, .int a0), (2, .ref (ad n2)), (3, .ref (ad n3)), (4, .ref (ad 41))]) dX5_choose_7 (by decide) rfl ?_
  refine rw_sub [2, 4, 5, 6, 1, 0] rfl ?_
  exact t_lX5_choose_9 (ad := ad) (G := G)  1000 n2 n3 x1 0 σ _ hr hf
def jX5_findAll_83 (k3 : Int32 → rS → Option (Unit × rS)) (v4 : Int32) (σ : rS) : Option (Unit × rS) := vI (v4 + 1) fun x13 => k3 x13 σ
set_option maxHeartbeats 4000000 in
theorem t_jX5_findAll_83 {G : rG} {ad : Nat → Nat} {o : (Unit × rS)} (k3 : Int32 → rS → Option (Unit × rS)) (hk3 : ∀ (v4 : Int32) (σ : rS) (h : rH), Rep G ad σ h → k3 v4 σ = some o → RW G mX5_findAll (rm 4 0 0) (qV G ad o) xN 0 0 3 [(0, .ref (ad 18)), (1, .ref (ad 1)), (2, .ref (ad 10)), (3, .ref (ad 41)), (4, .int v4)] [] h) (v4 : Int32) (σ : rS) (h : rH) (hr : Rep G ad σ h) (hf : jX5_findAll_83 k3 v4 σ = some o) : RW G mX5_findAll (rm 4 0 0) (qV G ad o) xN 0 0 83 [(0, .ref (ad 18)), (1, .ref (ad 1)), (2, .ref (ad 10)), (3, .ref (ad 41)), (4, .int v4)] [] h := by
  unfold jX5_findAll_83 at hf
  refine rw_iinc (v := v4 + 1) (lv2 := [(4, .int (v4 + 1)), (0, .ref (ad 18)), (1, .ref (ad 1)), (2, .ref (ad 10)), (3, .ref (ad 41))]) dX5_findAll_83 4 rfl rfl (by decide) rfl ?_
  refine nmL hf (fun x13 hf => ?_)
  refine rw_goto (tgt := 3) dX5_findAll_86 (by decide) ?_
  refine rw_sub [1, 2, 3, 4, 0] rfl ?_
  exact hk3 x13 σ _ hr hf
def lX5_findAll_3  : Nat → Int32 → rS → Option (Unit × rS)
  | 0, _, _ => none
  | n + 1, v4, σ => if (σ.1 10 4) ≤ v4 then some ((), σ) else if inB v4 42 then (if (σ.2.2.1 13 v4.toNatClampNeg) = 0 then if inB v4 42 then if inB (σ.2.2.1 11 v4.toNatClampNeg) 16 then if inB v4 42 then if inB (σ.2.2.1 12 v4.toNatClampNeg) 16 then (fX5_weigh (80 + 4 * (σ.2.2.1 11 v4.toNatClampNeg).toNatClampNeg) (80 + 4 * (σ.2.2.1 12 v4.toNatClampNeg).toNatClampNeg) σ).bind fun q8 => if inB 0 169 then if inB v4 42 then vS (uA q8.2 19 v4.toNatClampNeg (q8.2.2.2.1 24 (0 : Int32).toNatClampNeg)) fun σ11 => (fX5_choose v4 (80 + 4 * (σ.2.2.1 11 v4.toNatClampNeg).toNatClampNeg) (80 + 4 * (σ.2.2.1 12 v4.toNatClampNeg).toNatClampNeg) σ11).bind fun q12 => jX5_findAll_83 (lX5_findAll_3 n) v4 q12.2 else none else none else none else none else none else none else jX5_findAll_83 (lX5_findAll_3 n) v4 σ) else none
set_option maxHeartbeats 4000000 in
theorem t_lX5_findAll_3 {G : rG} {ad : Nat → Nat} {o : (Unit × rS)}   : ∀ (n : Nat) (v4 : Int32) (σ : rS) (h : rH), Rep G ad σ h → lX5_findAll_3  n v4 σ = some o → RW G mX5_findAll (rm 4 0 0) (qV G ad o) xN 0 0 3 [(0, .ref (ad 18)), (1, .ref (ad 1)), (2, .ref (ad 10)), (3, .ref (ad 41)), (4, .int v4)] [] h := by
  intro n
  induction n with
  | zero =>
    intro v4 σ h hr hf
    rw [lX5_findAll_3] at hf
    cases hf
  | succ n ih =>
    intro v4 σ h hr hf
    rw [lX5_findAll_3] at hf
    refine rw_iload dX5_findAll_3 4 rfl ?_
    refine rw_aload_n dX5_findAll_5 2 rfl rfl ?_
    refine sg_10_4 hr dX5_findAll_6 fl240 ?_
    refine rw_icmp_ge (tgt := 89) dX5_findAll_9 (by decide) (fun c1 => ?_) (fun c1 => ?_)
    · rw [if_pos c1] at hf
      replace hf := Option.some.inj hf
      subst hf
      exact rw_return dX5_findAll_89 rfl ⟨rfl, hr⟩ (by decide) (by decide)
    · rw [if_neg c1] at hf
      refine rw_aload_n dX5_findAll_12 2 rfl rfl ?_
      refine sg_10_2 hr dX5_findAll_13 fl235 ?_
      refine rw_iload dX5_findAll_16 4 rfl ?_
      obtain ⟨hi2, hf⟩ := grd hf
      refine sl_13 hr dX5_findAll_18 (inB_in hi2) ?_
      refine rw_if_ne (tgt := 83) dX5_findAll_19 (by decide) (fun c3 => ?_) (fun c3 => ?_)
      · rw [if_neg c3] at hf
        exact t_jX5_findAll_83 (ad := ad) (G := G) (lX5_findAll_3 n) ih v4 σ _ hr hf
      · rw [if_pos c3] at hf
        refine rw_aload_n dX5_findAll_22 1 rfl rfl ?_
        refine sg_1_0 hr dX5_findAll_23 fl164 ?_
        refine rw_aload_n dX5_findAll_26 2 rfl rfl ?_
        refine sg_10_0 hr dX5_findAll_27 fl229 ?_
        refine rw_iload dX5_findAll_30 4 rfl ?_
        obtain ⟨hi4, hf⟩ := grd hf
        refine sl_11 hr dX5_findAll_32 (inB_in hi4) ?_
        obtain ⟨hi5, hf⟩ := grd hf
        refine sa_2 hr dX5_findAll_33 (inB_in hi5) ?_
        refine rw_astore (lv2 := [(5, .ref (ad (80 + 4 * (σ.2.2.1 11 v4.toNatClampNeg).toNatClampNeg))), (0, .ref (ad 18)), (1, .ref (ad 1)), (2, .ref (ad 10)), (3, .ref (ad 41)), (4, .int v4)]) dX5_findAll_34 (by decide) rfl ?_
        refine rw_aload_n dX5_findAll_36 2 rfl rfl ?_
        refine sg_1_0 hr dX5_findAll_37 fl164 ?_
        refine rw_aload_n dX5_findAll_40 3 rfl rfl ?_
        refine sg_10_1 hr dX5_findAll_41 fl232 ?_
        refine rw_iload dX5_findAll_44 5 rfl ?_
        obtain ⟨hi6, hf⟩ := grd hf
        refine sl_12 hr dX5_findAll_46 (inB_in hi6) ?_
        obtain ⟨hi7, hf⟩ := grd hf
        refine sa_2 hr dX5_findAll_47 (inB_in hi7) ?_
        refine rw_astore (lv2 := [(6, .ref (ad (80 + 4 * (σ.2.2.1 12 v4.toNatClampNeg).toNatClampNeg))), (5, .ref (ad (80 + 4 * (σ.2.2.1 11 v4.toNatClampNeg).toNatClampNeg))), (0, .ref (ad 18)), (1, .ref (ad 1)), (2, .ref (ad 10)), (3, .ref (ad 41)), (4, .int v4)]) dX5_findAll_48 (by decide) rfl ?_
        refine rw_aload_n dX5_findAll_50 2 rfl rfl ?_
        refine rw_aload dX5_findAll_51 1 rfl ?_
        refine rw_aload dX5_findAll_53 0 rfl ?_
        refine rw_aload_n dX5_findAll_55 5 rfl rfl ?_
        obtain ⟨q8, hq8, hf⟩ := bnd hf
        refine kV_V (ad := ad) (As := [.ref (ad (80 + 4 * (σ.2.2.1 11 v4.toNatClampNeg).toNatClampNeg)), .ref (ad (80 + 4 * (σ.2.2.1 12 v4.toNatClampNeg).toNatClampNeg)), .ref (ad 41)]) (st := []) dX5_findAll_56 calX5_weigh wm631 wm633 wm8 rfl rfl (rc_18 hr) (ci := 5) (by decide) rfl rfl (Nat.le_of_ble_eq_true rfl) ⟨⟨by decide, by decide⟩, by decide, by decide⟩ (cmX5_weigh hr hq8) (fun h hr => ?_)
        refine rw_aload_n dX5_findAll_59 2 rfl rfl ?_
        refine sg_18_0 hr dX5_findAll_60 fl282 ?_
        refine rw_iload dX5_findAll_63 6 rfl ?_
        refine rw_aload_n dX5_findAll_65 2 rfl rfl ?_
        refine sg_18_6 hr dX5_findAll_66 fl292 ?_
        refine rw_iconst (v := 0) dX5_findAll_69 (by decide) ?_
        obtain ⟨hi9, hf⟩ := grd hf
        refine sl_24 hr dX5_findAll_70 (inB_in hi9) ?_
        obtain ⟨hi10, hf⟩ := grd hf
        refine ss_19 hr dX5_findAll_71 (inB_in hi10) (fun h hr => ?_)
        refine nmS hf hr (fun σ11 hr hf => ?_)
        refine rw_aload_n dX5_findAll_72 2 rfl rfl ?_
        refine rw_iload dX5_findAll_73 6 rfl ?_
        refine rw_aload dX5_findAll_75 1 rfl ?_
        refine rw_aload dX5_findAll_77 0 rfl ?_
        refine rw_aload_n dX5_findAll_79 5 rfl rfl ?_
        obtain ⟨q12, hq12, hf⟩ := bnd hf
        refine kV_V (ad := ad) (As := [.int v4, .ref (ad (80 + 4 * (σ.2.2.1 11 v4.toNatClampNeg).toNatClampNeg)), .ref (ad (80 + 4 * (σ.2.2.1 12 v4.toNatClampNeg).toNatClampNeg)), .ref (ad 41)]) (st := []) dX5_findAll_80 calX5_choose wm644 wm646 wm10 rfl rfl (rc_18 hr) (ci := 5) (by decide) rfl rfl (Nat.le_of_ble_eq_true rfl) ⟨⟨by decide, by decide⟩, by decide, by decide⟩ (cmX5_choose hr hq12) (fun h hr => ?_)
        refine rw_sub [2, 3, 4, 5, 6] rfl ?_
        exact t_jX5_findAll_83 (ad := ad) (G := G) (lX5_findAll_3 n) ih v4 q12.2 _ hr hf
def fX5_findAll  (σ : rS) : Option (Unit × rS) := lX5_findAll_3 1000 0 σ
set_option maxHeartbeats 4000000 in
theorem cmX5_findAll {G : rG} {ad : Nat → Nat}  {σ : rS} {h : rH} {o : (Unit × rS)} (hr : Rep G ad σ h) (hf : fX5_findAll  σ = some o) : rMT G mX5_findAll (rm 4 0 0) [.ref (ad 18), .ref (ad 1), .ref (ad 10), .ref (ad 41)] h (qV G ad o) xN := by
  unfold fX5_findAll at hf
  refine rw_met (by decide +kernel) rfl (Nat.le_of_ble_eq_true rfl) ?_
  show RW G _ _ _ _ 0 0 0 [(0, .ref (ad 18)), (1, .ref (ad 1)), (2, .ref (ad 10)), (3, .ref (ad 41))] [] h
  refine rw_iconst (v := 0) dX5_findAll_0 (by decide) ?_
  refine rw_istore (lv2 := [(4, .int 0), (0, .ref (ad 18)), (1, .ref (ad 1)), (2, .ref (ad 10)), (3, .ref (ad 41))]) dX5_findAll_1 (by decide) rfl ?_
  refine rw_sub [1, 2, 3, 4, 0] rfl ?_
  exact t_lX5_findAll_3 (ad := ad) (G := G)  1000 0 σ _ hr hf
def jX5_addRow_39   (σ : rS) : Option (Unit × rS) := some ((), σ)
set_option maxHeartbeats 4000000 in
theorem t_jX5_addRow_39 {G : rG} {ad : Nat → Nat} {o : (Unit × rS)}    (σ : rS) (h : rH) (hr : Rep G ad σ h) (hf : jX5_addRow_39   σ = some o) : RW G mX5_addRow (rm 0 0 0) (qV G ad o) xN 0 0 39 [] [] h := by
  unfold jX5_addRow_39 at hf
  replace hf := Option.some.inj hf
  subst hf
  exact rw_return dX5_addRow_39 rfl ⟨rfl, hr⟩ (by decide) (by decide)
def fX5_addRow (a0 : Int32) (a1 : Int32) (σ : rS) : Option (Unit × rS) := if 24 ≤ (σ.1 18 3) then jX5_addRow_39 σ else if inB (σ.1 18 3) 24 then vS (uA σ 20 (σ.1 18 3).toNatClampNeg a0) fun σ3 => if inB (σ3.1 18 3) 24 then vS (uA σ3 21 (σ3.1 18 3).toNatClampNeg a1) fun σ5 => vS (uI σ5 18 3 ((σ5.1 18 3) + 1)) fun σ6 => jX5_addRow_39 σ6 else none else none
set_option maxHeartbeats 4000000 in
theorem cmX5_addRow {G : rG} {ad : Nat → Nat} {a0 : Int32} {a1 : Int32} {σ : rS} {h : rH} {o : (Unit × rS)} (hr : Rep G ad σ h) (hf : fX5_addRow a0 a1 σ = some o) : rMT G mX5_addRow (rm 0 0 0) [.ref (ad 18), .int a0, .int a1] h (qV G ad o) xN := by
  unfold fX5_addRow at hf
  refine rw_met (by decide +kernel) rfl (Nat.le_of_ble_eq_true rfl) ?_
  show RW G _ _ _ _ 0 0 0 [(0, .ref (ad 18)), (1, .int a0), (2, .int a1)] [] h
  refine rw_aload_n dX5_addRow_0 0 rfl rfl ?_
  refine sg_18_3 hr dX5_addRow_1 fl288 ?_
  refine rw_bipush (v := 24) dX5_addRow_4 (by decide) ?_
  refine rw_icmp_ge (tgt := 39) dX5_addRow_6 (by decide) (fun c1 => ?_) (fun c1 => ?_)
  · rw [if_pos c1] at hf
    refine rw_sub [] rfl ?_
    exact t_jX5_addRow_39 (ad := ad) (G := G)  σ _ hr hf
  · rw [if_neg c1] at hf
    refine rw_aload_n dX5_addRow_9 0 rfl rfl ?_
    refine sg_18_1 hr dX5_addRow_10 fl284 ?_
    refine rw_aload_n dX5_addRow_13 0 rfl rfl ?_
    refine sg_18_3 hr dX5_addRow_14 fl288 ?_
    refine rw_iload_n dX5_addRow_17 1 rfl rfl ?_
    obtain ⟨hi2, hf⟩ := grd hf
    refine ss_20 hr dX5_addRow_18 (inB_in hi2) (fun h hr => ?_)
    refine nmS hf hr (fun σ3 hr hf => ?_)
    refine rw_aload_n dX5_addRow_19 0 rfl rfl ?_
    refine sg_18_2 hr dX5_addRow_20 fl286 ?_
    refine rw_aload_n dX5_addRow_23 0 rfl rfl ?_
    refine sg_18_3 hr dX5_addRow_24 fl288 ?_
    refine rw_iload_n dX5_addRow_27 2 rfl rfl ?_
    obtain ⟨hi4, hf⟩ := grd hf
    refine ss_21 hr dX5_addRow_28 (inB_in hi4) (fun h hr => ?_)
    refine nmS hf hr (fun σ5 hr hf => ?_)
    refine rw_aload_n dX5_addRow_29 0 rfl rfl ?_
    refine rw_dup dX5_addRow_30 rfl ?_
    refine sg_18_3 hr dX5_addRow_31 fl288 ?_
    refine rw_iconst (v := 1) dX5_addRow_34 (by decide) ?_
    refine rw_iadd dX5_addRow_35 ?_
    refine sp_18_3 hr dX5_addRow_36 fl288 (fun h hr => ?_)
    refine nmS hf hr (fun σ6 hr hf => ?_)
    refine rw_sub [] rfl ?_
    exact t_jX5_addRow_39 (ad := ad) (G := G)  σ6 _ hr hf
def jX5_draw_143 (k37 : Int32 → Int32 → Int32 → Int32 → Int32 → Int32 → Int32 → rS → Option (Unit × rS)) (v3 : Int32) (v4 : Int32) (v5 : Int32) (v6 : Int32) (v7 : Int32) (v8 : Int32) (v9 : Int32) (σ : rS) : Option (Unit × rS) := vI (v9 + 1) fun x14 => k37 v3 v4 v5 v6 v7 v8 x14 σ
set_option maxHeartbeats 4000000 in
theorem t_jX5_draw_143 {G : rG} {ad : Nat → Nat} {o : (Unit × rS)} (k37 : Int32 → Int32 → Int32 → Int32 → Int32 → Int32 → Int32 → rS → Option (Unit × rS)) (hk37 : ∀ (v3 : Int32) (v4 : Int32) (v5 : Int32) (v6 : Int32) (v7 : Int32) (v8 : Int32) (v9 : Int32) (σ : rS) (h : rH), Rep G ad σ h → k37 v3 v4 v5 v6 v7 v8 v9 σ = some o → RW G mX5_draw (rm 2 0 0) (qV G ad o) xN 0 0 37 [(0, .ref (ad 18)), (2, .ref (ad 10)), (3, .int v3), (4, .int v4), (5, .int v5), (6, .int v6), (7, .int v7), (8, .int v8), (9, .int v9)] [] h) (v3 : Int32) (v4 : Int32) (v5 : Int32) (v6 : Int32) (v7 : Int32) (v8 : Int32) (v9 : Int32) (σ : rS) (h : rH) (hr : Rep G ad σ h) (hf : jX5_draw_143 k37 v3 v4 v5 v6 v7 v8 v9 σ = some o) : RW G mX5_draw (rm 2 0 0) (qV G ad o) xN 0 0 143 [(0, .ref (ad 18)), (2, .ref (ad 10)), (3, .int v3), (4, .int v4), (5, .int v5), (6, .int v6), (7, .int v7), (8, .int v8), (9, .int v9)] [] h := by
  unfold jX5_draw_143 at hf
  refine rw_iinc (v := v9 + 1) (lv2 := [(9, .int (v9 + 1)), (0, .ref (ad 18)), (2, .ref (ad 10)), (3, .int v3), (4, .int v4), (5, .int v5), (6, .int v6), (7, .int v7), (8, .int v8)]) dX5_draw_143 8 rfl rfl (by decide) rfl ?_
  refine nmL hf (fun x14 hf => ?_)
  refine rw_goto (tgt := 37) dX5_draw_146 (by decide) ?_
  refine rw_sub [1, 2, 3, 4, 5, 6, 7, 8, 0] rfl ?_
  exact hk37 v3 v4 v5 v6 v7 v8 x14 σ _ hr hf
def jX5_draw_115 (k37 : Int32 → Int32 → Int32 → Int32 → Int32 → Int32 → Int32 → rS → Option (Unit × rS)) (v3 : Int32) (v4 : Int32) (v5 : Int32) (v6 : Int32) (v7 : Int32) (v8 : Int32) (v9 : Int32) (σ : rS) : Option (Unit × rS) := if v7 ≤ v5 then jX5_draw_143 k37 v3 v4 v5 v6 v7 v8 v9 σ else if v8 ≤ v6 then jX5_draw_143 k37 v3 v4 v5 v6 v7 v8 v9 σ else (fX5_addRow v5 v6 σ).bind fun q22 => vI (v5 + 1) fun x23 => vI (v6 + 1) fun x24 => jX5_draw_143 k37 v3 v4 x23 x24 v7 v8 v9 q22.2
set_option maxHeartbeats 4000000 in
theorem t_jX5_draw_115 {G : rG} {ad : Nat → Nat} {o : (Unit × rS)} (k37 : Int32 → Int32 → Int32 → Int32 → Int32 → Int32 → Int32 → rS → Option (Unit × rS)) (hk37 : ∀ (v3 : Int32) (v4 : Int32) (v5 : Int32) (v6 : Int32) (v7 : Int32) (v8 : Int32) (v9 : Int32) (σ : rS) (h : rH), Rep G ad σ h → k37 v3 v4 v5 v6 v7 v8 v9 σ = some o → RW G mX5_draw (rm 2 0 0) (qV G ad o) xN 0 0 37 [(0, .ref (ad 18)), (2, .ref (ad 10)), (3, .int v3), (4, .int v4), (5, .int v5), (6, .int v6), (7, .int v7), (8, .int v8), (9, .int v9)] [] h) (v3 : Int32) (v4 : Int32) (v5 : Int32) (v6 : Int32) (v7 : Int32) (v8 : Int32) (v9 : Int32) (σ : rS) (h : rH) (hr : Rep G ad σ h) (hf : jX5_draw_115 k37 v3 v4 v5 v6 v7 v8 v9 σ = some o) : RW G mX5_draw (rm 2 0 0) (qV G ad o) xN 0 0 115 [(0, .ref (ad 18)), (2, .ref (ad 10)), (3, .int v3), (4, .int v4), (5, .int v5), (6, .int v6), (7, .int v7), (8, .int v8), (9, .int v9)] [] h := by
  unfold jX5_draw_115 at hf
  refine rw_iload dX5_draw_115 4 rfl ?_
  refine rw_iload dX5_draw_117 6 rfl ?_
  refine rw_icmp_ge (tgt := 143) dX5_draw_119 (by decide) (fun c20 => ?_) (fun c20 => ?_)
  · rw [if_pos c20] at hf
    exact t_jX5_draw_143 (ad := ad) (G := G) k37 hk37 v3 v4 v5 v6 v7 v8 v9 σ _ hr hf
  · rw [if_neg c20] at hf
    refine rw_iload dX5_draw_122 5 rfl ?_
    refine rw_iload dX5_draw_124 7 rfl ?_
    refine rw_icmp_ge (tgt := 143) dX5_draw_126 (by decide) (fun c21 => ?_) (fun c21 => ?_)
    · rw [if_pos c21] at hf
      exact t_jX5_draw_143 (ad := ad) (G := G) k37 hk37 v3 v4 v5 v6 v7 v8 v9 σ _ hr hf
    · rw [if_neg c21] at hf
      refine rw_aload_n dX5_draw_129 0 rfl rfl ?_
      refine rw_iload dX5_draw_130 4 rfl ?_
      refine rw_iload dX5_draw_132 5 rfl ?_
      obtain ⟨q22, hq22, hf⟩ := bnd hf
      refine kV_V (ad := ad) (As := [.int v5, .int v6]) (st := []) dX5_draw_134 calX5_addRow wm1021 wm1023 wm26 rfl rfl (rc_18 hr) (ci := 5) (by decide) rfl rfl (Nat.le_of_ble_eq_true rfl) ⟨⟨by decide, by decide⟩, by decide, by decide⟩ (cmX5_addRow hr hq22) (fun h hr => ?_)
      refine rw_iinc (v := v5 + 1) (lv2 := [(5, .int (v5 + 1)), (0, .ref (ad 18)), (2, .ref (ad 10)), (3, .int v3), (4, .int v4), (6, .int v6), (7, .int v7), (8, .int v8), (9, .int v9)]) dX5_draw_137 4 rfl rfl (by decide) rfl ?_
      refine nmL hf (fun x23 hf => ?_)
      refine rw_iinc (v := v6 + 1) (lv2 := [(6, .int (v6 + 1)), (5, .int x23), (0, .ref (ad 18)), (2, .ref (ad 10)), (3, .int v3), (4, .int v4), (7, .int v7), (8, .int v8), (9, .int v9)]) dX5_draw_140 5 rfl rfl (by decide) rfl ?_
      refine nmL hf (fun x24 hf => ?_)
      refine rw_sub [2, 3, 4, 5, 1, 0, 6, 7, 8] rfl ?_
      exact t_jX5_draw_143 (ad := ad) (G := G) k37 hk37 v3 v4 x23 x24 v7 v8 v9 q22.2 _ hr hf
def jX5_draw_81 (k37 : Int32 → Int32 → Int32 → Int32 → Int32 → Int32 → Int32 → rS → Option (Unit × rS)) (v3 : Int32) (v4 : Int32) (v5 : Int32) (v6 : Int32) (v7 : Int32) (v8 : Int32) (v9 : Int32) (σ : rS) : Option (Unit × rS) := if v8 ≤ v6 then jX5_draw_115 k37 v3 v4 v5 v6 v7 v8 v9 σ else (fX5_partner v4 v3 v6 σ).bind fun q16 => if q16.1 = ((-1)) then (fX5_addRow ((-1)) v6 q16.2).bind fun q18 => vI (v6 + 1) fun x19 => jX5_draw_143 k37 v3 v4 v5 x19 v7 v8 v9 q18.2 else jX5_draw_115 k37 v3 v4 v5 v6 v7 v8 v9 q16.2
set_option maxHeartbeats 4000000 in
theorem t_jX5_draw_81 {G : rG} {ad : Nat → Nat} {o : (Unit × rS)} (k37 : Int32 → Int32 → Int32 → Int32 → Int32 → Int32 → Int32 → rS → Option (Unit × rS)) (hk37 : ∀ (v3 : Int32) (v4 : Int32) (v5 : Int32) (v6 : Int32) (v7 : Int32) (v8 : Int32) (v9 : Int32) (σ : rS) (h : rH), Rep G ad σ h → k37 v3 v4 v5 v6 v7 v8 v9 σ = some o → RW G mX5_draw (rm 2 0 0) (qV G ad o) xN 0 0 37 [(0, .ref (ad 18)), (2, .ref (ad 10)), (3, .int v3), (4, .int v4), (5, .int v5), (6, .int v6), (7, .int v7), (8, .int v8), (9, .int v9)] [] h) (v3 : Int32) (v4 : Int32) (v5 : Int32) (v6 : Int32) (v7 : Int32) (v8 : Int32) (v9 : Int32) (σ : rS) (h : rH) (hr : Rep G ad σ h) (hf : jX5_draw_81 k37 v3 v4 v5 v6 v7 v8 v9 σ = some o) : RW G mX5_draw (rm 2 0 0) (qV G ad o) xN 0 0 81 [(0, .ref (ad 18)), (2, .ref (ad 10)), (3, .int v3), (4, .int v4), (5, .int v5), (6, .int v6), (7, .int v7), (8, .int v8), (9, .int v9)] [] h := by
  unfold jX5_draw_81 at hf
  refine rw_iload dX5_draw_81 5 rfl ?_
  refine rw_iload dX5_draw_83 7 rfl ?_
  refine rw_icmp_ge (tgt := 115) dX5_draw_85 (by decide) (fun c15 => ?_) (fun c15 => ?_)
  · rw [if_pos c15] at hf
    exact t_jX5_draw_115 (ad := ad) (G := G) k37 hk37 v3 v4 v5 v6 v7 v8 v9 σ _ hr hf
  · rw [if_neg c15] at hf
    refine rw_aload_n dX5_draw_88 0 rfl rfl ?_
    refine rw_aload_n dX5_draw_89 1 rfl rfl ?_
    refine rw_iload dX5_draw_90 3 rfl ?_
    refine rw_iload_n dX5_draw_92 2 rfl rfl ?_
    refine rw_iload dX5_draw_93 5 rfl ?_
    obtain ⟨q16, hq16, hf⟩ := bnd hf
    refine kV_I (ad := ad) (As := [.ref (ad 10), .int v4, .int v3, .int v6]) (st := []) dX5_draw_95 calX5_partner wm1020 wm677 wm678 rfl rfl (rc_18 hr) (ci := 5) (by decide) rfl rfl (Nat.le_of_ble_eq_true rfl) ⟨⟨by decide, by decide⟩, by decide, by decide⟩ (cmX5_partner hr hq16) (fun h hr => ?_)
    refine rw_iconst (v := (-1)) dX5_draw_98 (by decide) ?_
    refine rw_icmp_ne (tgt := 115) dX5_draw_99 (by decide) (fun c17 => ?_) (fun c17 => ?_)
    · rw [if_neg c17] at hf
      exact t_jX5_draw_115 (ad := ad) (G := G) k37 hk37 v3 v4 v5 v6 v7 v8 v9 q16.2 _ hr hf
    · rw [if_pos c17] at hf
      refine rw_aload_n dX5_draw_102 0 rfl rfl ?_
      refine rw_iconst (v := (-1)) dX5_draw_103 (by decide) ?_
      refine rw_iload dX5_draw_104 5 rfl ?_
      obtain ⟨q18, hq18, hf⟩ := bnd hf
      refine kV_V (ad := ad) (As := [.int ((-1)), .int v6]) (st := []) dX5_draw_106 calX5_addRow wm1021 wm1023 wm26 rfl rfl (rc_18 hr) (ci := 5) (by decide) rfl rfl (Nat.le_of_ble_eq_true rfl) ⟨⟨by decide, by decide⟩, by decide, by decide⟩ (cmX5_addRow hr hq18) (fun h hr => ?_)
      refine rw_iinc (v := v6 + 1) (lv2 := [(6, .int (v6 + 1)), (0, .ref (ad 18)), (2, .ref (ad 10)), (3, .int v3), (4, .int v4), (5, .int v5), (7, .int v7), (8, .int v8), (9, .int v9)]) dX5_draw_109 5 rfl rfl (by decide) rfl ?_
      refine nmL hf (fun x19 hf => ?_)
      refine rw_goto (tgt := 143) dX5_draw_112 (by decide) ?_
      refine rw_sub [1, 2, 3, 4, 5, 0, 6, 7, 8] rfl ?_
      exact t_jX5_draw_143 (ad := ad) (G := G) k37 hk37 v3 v4 v5 x19 v7 v8 v9 q18.2 _ hr hf
def lX5_draw_37  : Nat → Int32 → Int32 → Int32 → Int32 → Int32 → Int32 → Int32 → rS → Option (Unit × rS)
  | 0, _, _, _, _, _, _, _, _ => none
  | n + 1, v3, v4, v5, v6, v7, v8, v9, σ => if (v7 + v8) ≤ v9 then some ((), σ) else if v7 ≤ v5 then jX5_draw_81 (lX5_draw_37 n) v3 v4 v5 v6 v7 v8 v9 σ else (fX5_partner v3 v4 v5 σ).bind fun q10 => if q10.1 = ((-1)) then (fX5_addRow v5 ((-1)) q10.2).bind fun q12 => vI (v5 + 1) fun x13 => jX5_draw_143 (lX5_draw_37 n) v3 v4 x13 v6 v7 v8 v9 q12.2 else jX5_draw_81 (lX5_draw_37 n) v3 v4 v5 v6 v7 v8 v9 q10.2
set_option maxHeartbeats 4000000 in
theorem t_lX5_draw_37 {G : rG} {ad : Nat → Nat} {o : (Unit × rS)}   : ∀ (n : Nat) (v3 : Int32) (v4 : Int32) (v5 : Int32) (v6 : Int32) (v7 : Int32) (v8 : Int32) (v9 : Int32) (σ : rS) (h : rH), Rep G ad σ h → lX5_draw_37  n v3 v4 v5 v6 v7 v8 v9 σ = some o → RW G mX5_draw (rm 2 0 0) (qV G ad o) xN 0 0 37 [(0, .ref (ad 18)), (2, .ref (ad 10)), (3, .int v3), (4, .int v4), (5, .int v5), (6, .int v6), (7, .int v7), (8, .int v8), (9, .int v9)] [] h := by
  intro n
  induction n with
  | zero =>
    intro v3 v4 v5 v6 v7 v8 v9 σ h hr hf
    rw [lX5_draw_37] at hf
    cases hf
  | succ n ih =>
    intro v3 v4 v5 v6 v7 v8 v9 σ h hr hf
    rw [lX5_draw_37] at hf
    refine rw_iload dX5_draw_37 8 rfl ?_
    refine rw_iload dX5_draw_39 6 rfl ?_
    refine rw_iload dX5_draw_41 7 rfl ?_
    refine rw_iadd dX5_draw_43 ?_
    refine rw_icmp_ge (tgt := 149) dX5_draw_44 (by decide) (fun c8 => ?_) (fun c8 => ?_)
    · rw [if_pos c8] at hf
      replace hf := Option.some.inj hf
      subst hf
      exact rw_return dX5_draw_149 rfl ⟨rfl, hr⟩ (by decide) (by decide)
    · rw [if_neg c8] at hf
      refine rw_iload dX5_draw_47 4 rfl ?_
      refine rw_iload dX5_draw_49 6 rfl ?_
      refine rw_icmp_ge (tgt := 81) dX5_draw_51 (by decide) (fun c9 => ?_) (fun c9 => ?_)
      · rw [if_pos c9] at hf
        exact t_jX5_draw_81 (ad := ad) (G := G) (lX5_draw_37 n) ih v3 v4 v5 v6 v7 v8 v9 σ _ hr hf
      · rw [if_neg c9] at hf
        refine rw_aload_n dX5_draw_54 0 rfl rfl ?_
        refine rw_aload_n dX5_draw_55 1 rfl rfl ?_
        refine rw_iload_n dX5_draw_56 2 rfl rfl ?_
        refine rw_iload dX5_draw_57 3 rfl ?_
        refine rw_iload dX5_draw_59 4 rfl ?_
        obtain ⟨q10, hq10, hf⟩ := bnd hf
        refine kV_I (ad := ad) (As := [.ref (ad 10), .int v3, .int v4, .int v5]) (st := []) dX5_draw_61 calX5_partner wm1020 wm677 wm678 rfl rfl (rc_18 hr) (ci := 5) (by decide) rfl rfl (Nat.le_of_ble_eq_true rfl) ⟨⟨by decide, by decide⟩, by decide, by decide⟩ (cmX5_partner hr hq10) (fun h hr => ?_)
        refine rw_iconst (v := (-1)) dX5_draw_64 (by decide) ?_
        refine rw_icmp_ne (tgt := 81) dX5_draw_65 (by decide) (fun c11 => ?_) (fun c11 => ?_)
        · rw [if_neg c11] at hf
          exact t_jX5_draw_81 (ad := ad) (G := G) (lX5_draw_37 n) ih v3 v4 v5 v6 v7 v8 v9 q10.2 _ hr hf
        · rw [if_pos c11] at hf
          refine rw_aload_n dX5_draw_68 0 rfl rfl ?_
          refine rw_iload dX5_draw_69 4 rfl ?_
          refine rw_iconst (v := (-1)) dX5_draw_71 (by decide) ?_
          obtain ⟨q12, hq12, hf⟩ := bnd hf
          refine kV_V (ad := ad) (As := [.int v5, .int ((-1))]) (st := []) dX5_draw_72 calX5_addRow wm1021 wm1023 wm26 rfl rfl (rc_18 hr) (ci := 5) (by decide) rfl rfl (Nat.le_of_ble_eq_true rfl) ⟨⟨by decide, by decide⟩, by decide, by decide⟩ (cmX5_addRow hr hq12) (fun h hr => ?_)
          refine rw_iinc (v := v5 + 1) (lv2 := [(5, .int (v5 + 1)), (0, .ref (ad 18)), (2, .ref (ad 10)), (3, .int v3), (4, .int v4), (6, .int v6), (7, .int v7), (8, .int v8), (9, .int v9)]) dX5_draw_75 4 rfl rfl (by decide) rfl ?_
          refine nmL hf (fun x13 hf => ?_)
          refine rw_goto (tgt := 143) dX5_draw_78 (by decide) ?_
          refine rw_sub [1, 2, 3, 4, 0, 5, 6, 7, 8] rfl ?_
          exact t_jX5_draw_143 (ad := ad) (G := G) (lX5_draw_37 n) ih v3 v4 x13 v6 v7 v8 v9 q12.2 _ hr hf
def fX5_draw (a2 : Int32) (a3 : Int32) (σ : rS) : Option (Unit × rS) := vS (uI σ 18 3 0) fun σ1 => if inB a2 16 then if isBo (80 + 4 * a2.toNatClampNeg) then vI (σ1.1 (80 + 4 * a2.toNatClampNeg) 4) fun x4 => if inB a3 16 then if isBo (80 + 4 * a3.toNatClampNeg) then vI (σ1.1 (80 + 4 * a3.toNatClampNeg) 4) fun x7 => lX5_draw_37 1000 a2 a3 0 0 x4 x7 0 σ1 else none else none else none else none
set_option maxHeartbeats 4000000 in
theorem cmX5_draw {G : rG} {ad : Nat → Nat} {a2 : Int32} {a3 : Int32} {σ : rS} {h : rH} {o : (Unit × rS)} (hr : Rep G ad σ h) (hf : fX5_draw a2 a3 σ = some o) : rMT G mX5_draw (rm 2 0 0) [.ref (ad 18), .ref (ad 1), .ref (ad 10), .int a2, .int a3] h (qV G ad o) xN := by
  unfold fX5_draw at hf
  refine rw_met (by decide +kernel) rfl (Nat.le_of_ble_eq_true rfl) ?_
  show RW G _ _ _ _ 0 0 0 [(0, .ref (ad 18)), (1, .ref (ad 1)), (2, .ref (ad 10)), (3, .int a2), (4, .int a3)] [] h
  refine rw_aload_n dX5_draw_0 0 rfl rfl ?_
  refine rw_iconst (v := 0) dX5_draw_1 (by decide) ?_
  refine sp_18_3 hr dX5_draw_2 fl288 (fun h hr => ?_)
  refine nmS hf hr (fun σ1 hr hf => ?_)
  refine rw_iconst (v := 0) dX5_draw_5 (by decide) ?_
  refine rw_istore (lv2 := [(5, .int 0), (0, .ref (ad 18)), (1, .ref (ad 1)), (2, .ref (ad 10)), (3, .int a2), (4, .int a3)]) dX5_draw_6 (by decide) rfl ?_
  refine rw_iconst (v := 0) dX5_draw_8 (by decide) ?_
  refine rw_istore (lv2 := [(6, .int 0), (5, .int 0), (0, .ref (ad 18)), (1, .ref (ad 1)), (2, .ref (ad 10)), (3, .int a2), (4, .int a3)]) dX5_draw_9 (by decide) rfl ?_
  refine rw_aload_n dX5_draw_11 3 rfl rfl ?_
  refine sg_1_0 hr dX5_draw_12 fl164 ?_
  refine rw_iload_n dX5_draw_15 5 rfl rfl ?_
  obtain ⟨hi2, hf⟩ := grd hf
  refine sa_2 hr dX5_draw_16 (inB_in hi2) ?_
  obtain ⟨hp3, hf⟩ := grd hf
  refine sg_Bo_4 hr dX5_draw_17 fl150 hp3 ?_
  refine nmI hf (fun x4 hf => ?_)
  refine rw_istore (lv2 := [(7, .int x4), (6, .int 0), (5, .int 0), (0, .ref (ad 18)), (1, .ref (ad 1)), (2, .ref (ad 10)), (3, .int a2), (4, .int a3)]) dX5_draw_20 (by decide) rfl ?_
  refine rw_aload_n dX5_draw_22 4 rfl rfl ?_
  refine sg_1_0 hr dX5_draw_23 fl164 ?_
  refine rw_iload dX5_draw_26 7 rfl ?_
  obtain ⟨hi5, hf⟩ := grd hf
  refine sa_2 hr dX5_draw_28 (inB_in hi5) ?_
  obtain ⟨hp6, hf⟩ := grd hf
  refine sg_Bo_4 hr dX5_draw_29 fl150 hp6 ?_
  refine nmI hf (fun x7 hf => ?_)
  refine rw_istore (lv2 := [(8, .int x7), (7, .int x4), (6, .int 0), (5, .int 0), (0, .ref (ad 18)), (1, .ref (ad 1)), (2, .ref (ad 10)), (3, .int a2), (4, .int a3)]) dX5_draw_32 (by decide) rfl ?_
  refine rw_iconst (v := 0) dX5_draw_34 (by decide) ?_
  refine rw_istore (lv2 := [(9, .int 0), (8, .int x7), (7, .int x4), (6, .int 0), (5, .int 0), (0, .ref (ad 18)), (1, .ref (ad 1)), (2, .ref (ad 10)), (3, .int a2), (4, .int a3)]) dX5_draw_35 (by decide) rfl ?_
  refine rw_sub [5, 7, 8, 9, 4, 3, 2, 1, 0] rfl ?_
  exact t_lX5_draw_37 (ad := ad) (G := G)  1000 a2 a3 0 0 x4 x7 0 σ1 _ hr hf
def jX5_crossesOn_39 (k5 : Int32 → Int32 → Int32 → Int32 → rS → Option (Int32 × rS)) (v1 : Int32) (v2 : Int32) (v3 : Int32) (v4 : Int32) (v5 : Int32) (σ : rS) : Option (Int32 × rS) := vI (if v3 < v5 then v5 else v3) fun x6 => vI (v4 + 1) fun x7 => k5 v1 v2 x6 x7 σ
set_option maxHeartbeats 4000000 in
theorem t_jX5_crossesOn_39 {G : rG} {ad : Nat → Nat} {o : (Int32 × rS)} (k5 : Int32 → Int32 → Int32 → Int32 → rS → Option (Int32 × rS)) (hk5 : ∀ (v1 : Int32) (v2 : Int32) (v3 : Int32) (v4 : Int32) (σ : rS) (h : rH), Rep G ad σ h → k5 v1 v2 v3 v4 σ = some o → RW G mX5_crossesOn (rm 1 0 0) (qI G ad o) xN 0 0 5 [(0, .ref (ad 18)), (1, .int v1), (2, .int v2), (3, .int v3), (4, .int v4)] [] h) (v1 : Int32) (v2 : Int32) (v3 : Int32) (v4 : Int32) (v5 : Int32) (σ : rS) (h : rH) (hr : Rep G ad σ h) (hf : jX5_crossesOn_39 k5 v1 v2 v3 v4 v5 σ = some o) : RW G mX5_crossesOn (rm 1 0 0) (qI G ad o) xN 0 0 39 [(0, .ref (ad 18)), (1, .int v1), (2, .int v2), (3, .int v3), (4, .int v4), (5, .int v5)] [] h := by
  unfold jX5_crossesOn_39 at hf
  refine rw_iload_n dX5_crossesOn_39 3 rfl rfl ?_
  refine rw_iload dX5_crossesOn_40 5 rfl ?_
  refine rw_mmax dX5_crossesOn_42 wm1040 (by decide) (Nat.le_of_ble_eq_true rfl) (by decide) (by decide) ?_
  refine nmI hf (fun x6 hf => ?_)
  refine rw_istore_n (lv2 := [(3, .int x6), (0, .ref (ad 18)), (1, .int v1), (2, .int v2), (4, .int v4), (5, .int v5)]) dX5_crossesOn_45 rfl (by decide) rfl ?_
  refine rw_iinc (v := v4 + 1) (lv2 := [(4, .int (v4 + 1)), (3, .int x6), (0, .ref (ad 18)), (1, .int v1), (2, .int v2), (5, .int v5)]) dX5_crossesOn_46 4 rfl rfl (by decide) rfl ?_
  refine nmL hf (fun x7 hf => ?_)
  refine rw_goto (tgt := 5) dX5_crossesOn_49 (by decide) ?_
  refine rw_sub [2, 3, 4, 1, 0] rfl ?_
  exact hk5 v1 v2 x6 x7 σ _ hr hf
def lX5_crossesOn_5  : Nat → Int32 → Int32 → Int32 → Int32 → rS → Option (Int32 × rS)
  | 0, _, _, _, _, _ => none
  | n + 1, v1, v2, v3, v4, σ => if v2 ≤ v4 then some (0, σ) else if inB ((v1 * 12) + v4) 504 then vI (σ.2.2.1 22 ((v1 * 12) + v4).toNatClampNeg) fun x3 => (if x3 = ((-1)) then jX5_crossesOn_39 (lX5_crossesOn_5 n) v1 v2 v3 v4 x3 σ else if v3 < x3 then jX5_crossesOn_39 (lX5_crossesOn_5 n) v1 v2 v3 v4 x3 σ else some (1, σ)) else none
set_option maxHeartbeats 4000000 in
theorem t_lX5_crossesOn_5 {G : rG} {ad : Nat → Nat} {o : (Int32 × rS)}   : ∀ (n : Nat) (v1 : Int32) (v2 : Int32) (v3 : Int32) (v4 : Int32) (σ : rS) (h : rH), Rep G ad σ h → lX5_crossesOn_5  n v1 v2 v3 v4 σ = some o → RW G mX5_crossesOn (rm 1 0 0) (qI G ad o) xN 0 0 5 [(0, .ref (ad 18)), (1, .int v1), (2, .int v2), (3, .int v3), (4, .int v4)] [] h := by
  intro n
  induction n with
  | zero =>
    intro v1 v2 v3 v4 σ h hr hf
    rw [lX5_crossesOn_5] at hf
    cases hf
  | succ n ih =>
    intro v1 v2 v3 v4 σ h hr hf
    rw [lX5_crossesOn_5] at hf
    refine rw_iload dX5_crossesOn_5 4 rfl ?_
    refine rw_iload_n dX5_crossesOn_7 2 rfl rfl ?_
    refine rw_icmp_ge (tgt := 52) dX5_crossesOn_8 (by decide) (fun c1 => ?_) (fun c1 => ?_)
    · rw [if_pos c1] at hf
      refine rw_iconst (v := 0) dX5_crossesOn_52 (by decide) ?_
      replace hf := Option.some.inj hf
      subst hf
      exact rw_zreturn dX5_crossesOn_53 rfl (by decide) ⟨rfl, hr⟩ (by decide) (by decide)
    · rw [if_neg c1] at hf
      refine rw_aload_n dX5_crossesOn_11 0 rfl rfl ?_
      refine sg_18_4 hr dX5_crossesOn_12 fl290 ?_
      refine rw_iload_n dX5_crossesOn_15 1 rfl rfl ?_
      refine rw_bipush (v := 12) dX5_crossesOn_16 (by decide) ?_
      refine rw_imul dX5_crossesOn_18 ?_
      refine rw_iload dX5_crossesOn_19 4 rfl ?_
      refine rw_iadd dX5_crossesOn_21 ?_
      obtain ⟨hi2, hf⟩ := grd hf
      refine sl_22 hr dX5_crossesOn_22 (inB_in hi2) ?_
      refine nmI hf (fun x3 hf => ?_)
      refine rw_istore (lv2 := [(5, .int x3), (0, .ref (ad 18)), (1, .int v1), (2, .int v2), (3, .int v3), (4, .int v4)]) dX5_crossesOn_23 (by decide) rfl ?_
      refine rw_iload dX5_crossesOn_25 0 rfl ?_
      refine rw_iconst (v := (-1)) dX5_crossesOn_27 (by decide) ?_
      refine rw_icmp_eq (tgt := 39) dX5_crossesOn_28 (by decide) (fun c4 => ?_) (fun c4 => ?_)
      · rw [if_pos c4] at hf
        refine rw_sub [1, 2, 3, 4, 5, 0] rfl ?_
        exact t_jX5_crossesOn_39 (ad := ad) (G := G) (lX5_crossesOn_5 n) ih v1 v2 v3 v4 x3 σ _ hr hf
      · rw [if_neg c4] at hf
        refine rw_iload dX5_crossesOn_31 0 rfl ?_
        refine rw_iload_n dX5_crossesOn_33 4 rfl rfl ?_
        refine rw_icmp_gt (tgt := 39) dX5_crossesOn_34 (by decide) (fun c5 => ?_) (fun c5 => ?_)
        · rw [if_pos c5] at hf
          refine rw_sub [1, 2, 3, 4, 5, 0] rfl ?_
          exact t_jX5_crossesOn_39 (ad := ad) (G := G) (lX5_crossesOn_5 n) ih v1 v2 v3 v4 x3 σ _ hr hf
        · rw [if_neg c5] at hf
          refine rw_iconst (v := 1) dX5_crossesOn_37 (by decide) ?_
          replace hf := Option.some.inj hf
          subst hf
          exact rw_zreturn dX5_crossesOn_38 rfl (by decide) ⟨rfl, hr⟩ (by decide) (by decide)
def fX5_crossesOn (a0 : Int32) (a1 : Int32) (σ : rS) : Option (Int32 × rS) := lX5_crossesOn_5 1000 a0 a1 ((-1)) 0 σ
set_option maxHeartbeats 4000000 in
theorem cmX5_crossesOn {G : rG} {ad : Nat → Nat} {a0 : Int32} {a1 : Int32} {σ : rS} {h : rH} {o : (Int32 × rS)} (hr : Rep G ad σ h) (hf : fX5_crossesOn a0 a1 σ = some o) : rMT G mX5_crossesOn (rm 1 0 0) [.ref (ad 18), .int a0, .int a1] h (qI G ad o) xN := by
  unfold fX5_crossesOn at hf
  refine rw_met (by decide +kernel) rfl (Nat.le_of_ble_eq_true rfl) ?_
  show RW G _ _ _ _ 0 0 0 [(0, .ref (ad 18)), (1, .int a0), (2, .int a1)] [] h
  refine rw_iconst (v := (-1)) dX5_crossesOn_0 (by decide) ?_
  refine rw_istore_n (lv2 := [(3, .int ((-1))), (0, .ref (ad 18)), (1, .int a0), (2, .int a1)]) dX5_crossesOn_1 rfl (by decide) rfl ?_
  refine rw_iconst (v := 0) dX5_crossesOn_2 (by decide) ?_
  refine rw_istore (lv2 := [(4, .int 0), (3, .int ((-1))), (0, .ref (ad 18)), (1, .int a0), (2, .int a1)]) dX5_crossesOn_3 (by decide) rfl ?_
  refine rw_sub [2, 3, 4, 1, 0] rfl ?_
  exact t_lX5_crossesOn_5 (ad := ad) (G := G)  1000 a0 a1 ((-1)) 0 σ _ hr hf
def jX5_anyCrosses_43 (k2 : Int32 → rS → Option (Int32 × rS)) (v3 : Int32) (σ : rS) : Option (Int32 × rS) := vI (v3 + 1) fun x9 => k2 x9 σ
set_option maxHeartbeats 4000000 in
theorem t_jX5_anyCrosses_43 {G : rG} {ad : Nat → Nat} {o : (Int32 × rS)} (k2 : Int32 → rS → Option (Int32 × rS)) (hk2 : ∀ (v3 : Int32) (σ : rS) (h : rH), Rep G ad σ h → k2 v3 σ = some o → RW G mX5_anyCrosses (rm 2 0 0) (qI G ad o) xN 0 0 2 [(0, .ref (ad 18)), (1, .ref (ad 1)), (2, .ref (ad 10)), (3, .int v3)] [] h) (v3 : Int32) (σ : rS) (h : rH) (hr : Rep G ad σ h) (hf : jX5_anyCrosses_43 k2 v3 σ = some o) : RW G mX5_anyCrosses (rm 2 0 0) (qI G ad o) xN 0 0 43 [(0, .ref (ad 18)), (1, .ref (ad 1)), (2, .ref (ad 10)), (3, .int v3)] [] h := by
  unfold jX5_anyCrosses_43 at hf
  refine rw_iinc (v := v3 + 1) (lv2 := [(3, .int (v3 + 1)), (0, .ref (ad 18)), (1, .ref (ad 1)), (2, .ref (ad 10))]) dX5_anyCrosses_43 3 rfl rfl (by decide) rfl ?_
  refine nmL hf (fun x9 hf => ?_)
  refine rw_goto (tgt := 2) dX5_anyCrosses_46 (by decide) ?_
  refine rw_sub [1, 2, 3, 0] rfl ?_
  exact hk2 x9 σ _ hr hf
def lX5_anyCrosses_2  : Nat → Int32 → rS → Option (Int32 × rS)
  | 0, _, _ => none
  | n + 1, v3, σ => if (σ.1 10 4) ≤ v3 then some (0, σ) else if inB v3 42 then (if (σ.2.2.1 13 v3.toNatClampNeg) = 0 then if inB v3 42 then if inB (σ.2.2.1 11 v3.toNatClampNeg) 16 then if isBo (80 + 4 * (σ.2.2.1 11 v3.toNatClampNeg).toNatClampNeg) then (fX5_crossesOn v3 (σ.1 (80 + 4 * (σ.2.2.1 11 v3.toNatClampNeg).toNatClampNeg) 4) σ).bind fun q7 => (if q7.1 = 0 then jX5_anyCrosses_43 (lX5_anyCrosses_2 n) v3 q7.2 else some (1, q7.2)) else none else none else none else jX5_anyCrosses_43 (lX5_anyCrosses_2 n) v3 σ) else none
set_option maxHeartbeats 4000000 in
theorem t_lX5_anyCrosses_2 {G : rG} {ad : Nat → Nat} {o : (Int32 × rS)}   : ∀ (n : Nat) (v3 : Int32) (σ : rS) (h : rH), Rep G ad σ h → lX5_anyCrosses_2  n v3 σ = some o → RW G mX5_anyCrosses (rm 2 0 0) (qI G ad o) xN 0 0 2 [(0, .ref (ad 18)), (1, .ref (ad 1)), (2, .ref (ad 10)), (3, .int v3)] [] h := by
  intro n
  induction n with
  | zero =>
    intro v3 σ h hr hf
    rw [lX5_anyCrosses_2] at hf
    cases hf
  | succ n ih =>
    intro v3 σ h hr hf
    rw [lX5_anyCrosses_2] at hf
    refine rw_iload_n dX5_anyCrosses_2 3 rfl rfl ?_
    refine rw_aload_n dX5_anyCrosses_3 2 rfl rfl ?_
    refine sg_10_4 hr dX5_anyCrosses_4 fl240 ?_
    refine rw_icmp_ge (tgt := 49) dX5_anyCrosses_7 (by decide) (fun c1 => ?_) (fun c1 => ?_)
    · rw [if_pos c1] at hf
      refine rw_iconst (v := 0) dX5_anyCrosses_49 (by decide) ?_
      replace hf := Option.some.inj hf
      subst hf
      exact rw_zreturn dX5_anyCrosses_50 rfl (by decide) ⟨rfl, hr⟩ (by decide) (by decide)
    · rw [if_neg c1] at hf
      refine rw_aload_n dX5_anyCrosses_10 2 rfl rfl ?_
      refine sg_10_2 hr dX5_anyCrosses_11 fl235 ?_
      refine rw_iload_n dX5_anyCrosses_14 3 rfl rfl ?_
      obtain ⟨hi2, hf⟩ := grd hf
      refine sl_13 hr dX5_anyCrosses_15 (inB_in hi2) ?_
      refine rw_if_ne (tgt := 43) dX5_anyCrosses_16 (by decide) (fun c3 => ?_) (fun c3 => ?_)
      · rw [if_neg c3] at hf
        exact t_jX5_anyCrosses_43 (ad := ad) (G := G) (lX5_anyCrosses_2 n) ih v3 σ _ hr hf
      · rw [if_pos c3] at hf
        refine rw_aload_n dX5_anyCrosses_19 0 rfl rfl ?_
        refine rw_iload_n dX5_anyCrosses_20 3 rfl rfl ?_
        refine rw_aload_n dX5_anyCrosses_21 1 rfl rfl ?_
        refine sg_1_0 hr dX5_anyCrosses_22 fl164 ?_
        refine rw_aload_n dX5_anyCrosses_25 2 rfl rfl ?_
        refine sg_10_0 hr dX5_anyCrosses_26 fl229 ?_
        refine rw_iload_n dX5_anyCrosses_29 3 rfl rfl ?_
        obtain ⟨hi4, hf⟩ := grd hf
        refine sl_11 hr dX5_anyCrosses_30 (inB_in hi4) ?_
        obtain ⟨hi5, hf⟩ := grd hf
        refine sa_2 hr dX5_anyCrosses_31 (inB_in hi5) ?_
        obtain ⟨hp6, hf⟩ := grd hf
        refine sg_Bo_4 hr dX5_anyCrosses_32 fl150 hp6 ?_
        obtain ⟨q7, hq7, hf⟩ := bnd hf
        refine kV_I (ad := ad) (As := [.int v3, .int (σ.1 (80 + 4 * (σ.2.2.1 11 v3.toNatClampNeg).toNatClampNeg) 4)]) (st := []) dX5_anyCrosses_35 calX5_crossesOn wm1036 wm1038 wm27 rfl rfl (rc_18 hr) (ci := 5) (by decide) rfl rfl (Nat.le_of_ble_eq_true rfl) ⟨⟨by decide, by decide⟩, by decide, by decide⟩ (cmX5_crossesOn hr hq7) (fun h hr => ?_)
        refine rw_if_eq (tgt := 43) dX5_anyCrosses_38 (by decide) (fun c8 => ?_) (fun c8 => ?_)
        · rw [if_pos c8] at hf
          exact t_jX5_anyCrosses_43 (ad := ad) (G := G) (lX5_anyCrosses_2 n) ih v3 q7.2 _ hr hf
        · rw [if_neg c8] at hf
          refine rw_iconst (v := 1) dX5_anyCrosses_41 (by decide) ?_
          replace hf := Option.some.inj hf
          subst hf
          exact rw_zreturn dX5_anyCrosses_42 rfl (by decide) ⟨rfl, hr⟩ (by decide) (by decide)
def fX5_anyCrosses  (σ : rS) : Option (Int32 × rS) := lX5_anyCrosses_2 1000 0 σ
set_option maxHeartbeats 4000000 in
theorem cmX5_anyCrosses {G : rG} {ad : Nat → Nat}  {σ : rS} {h : rH} {o : (Int32 × rS)} (hr : Rep G ad σ h) (hf : fX5_anyCrosses  σ = some o) : rMT G mX5_anyCrosses (rm 2 0 0) [.ref (ad 18), .ref (ad 1), .ref (ad 10)] h (qI G ad o) xN := by
  unfold fX5_anyCrosses at hf
  refine rw_met (by decide +kernel) rfl (Nat.le_of_ble_eq_true rfl) ?_
  show RW G _ _ _ _ 0 0 0 [(0, .ref (ad 18)), (1, .ref (ad 1)), (2, .ref (ad 10))] [] h
  refine rw_iconst (v := 0) dX5_anyCrosses_0 (by decide) ?_
  refine rw_istore_n (lv2 := [(3, .int 0), (0, .ref (ad 18)), (1, .ref (ad 1)), (2, .ref (ad 10))]) dX5_anyCrosses_1 rfl (by decide) rfl ?_
  refine rw_sub [1, 2, 3, 0] rfl ?_
  exact t_lX5_anyCrosses_2 (ad := ad) (G := G)  1000 0 σ _ hr hf
def jX6_insertKey_51  (v1 : Int32) (v2 : Int32) (σ : rS) : Option (Unit × rS) := if inB v2 120 then vS (uA σ 15 v2.toNatClampNeg v1) fun σ11 => vS (uI σ11 10 10 ((σ11.1 10 10) + 1)) fun σ12 => some ((), σ12) else none
set_option maxHeartbeats 4000000 in
theorem t_jX6_insertKey_51 {G : rG} {ad : Nat → Nat} {o : (Unit × rS)}   (v1 : Int32) (v2 : Int32) (σ : rS) (h : rH) (hr : Rep G ad σ h) (hf : jX6_insertKey_51  v1 v2 σ = some o) : RW G mX6_insertKey (rm 0 0 0) (qV G ad o) xN 0 0 51 [(0, .ref (ad 10)), (1, .int v1), (2, .int v2)] [] h := by
  unfold jX6_insertKey_51 at hf
  refine rw_aload_n dX6_insertKey_51 0 rfl rfl ?_
  refine sg_10_7 hr dX6_insertKey_52 fl248 ?_
  refine rw_iload_n dX6_insertKey_55 2 rfl rfl ?_
  refine rw_iload_n dX6_insertKey_56 1 rfl rfl ?_
  obtain ⟨hi10, hf⟩ := grd hf
  refine ss_15 hr dX6_insertKey_57 (inB_in hi10) (fun h hr => ?_)
  refine nmS hf hr (fun σ11 hr hf => ?_)
  refine rw_aload_n dX6_insertKey_58 0 rfl rfl ?_
  refine rw_dup dX6_insertKey_59 rfl ?_
  refine sg_10_10 hr dX6_insertKey_60 fl251 ?_
  refine rw_iconst (v := 1) dX6_insertKey_63 (by decide) ?_
  refine rw_iadd dX6_insertKey_64 ?_
  refine sp_10_10 hr dX6_insertKey_65 fl251 (fun h hr => ?_)
  refine nmS hf hr (fun σ12 hr hf => ?_)
  replace hf := Option.some.inj hf
  subst hf
  exact rw_return dX6_insertKey_68 rfl ⟨rfl, hr⟩ (by decide) (by decide)
def lX6_insertKey_15  : Nat → Int32 → Int32 → rS → Option (Unit × rS)
  | 0, _, _, _ => none
  | n + 1, v1, v2, σ => if v2 ≤ 0 then jX6_insertKey_51 v1 v2 σ else if inB (v2 - 1) 120 then (if (σ.2.2.1 15 (v2 - 1).toNatClampNeg) ≤ v1 then jX6_insertKey_51 v1 v2 σ else if inB (v2 - 1) 120 then if inB v2 120 then vS (uA σ 15 v2.toNatClampNeg (σ.2.2.1 15 (v2 - 1).toNatClampNeg)) fun σ8 => vI (v2 + (-1)) fun x9 => (lX6_insertKey_15 n) v1 x9 σ8 else none else none) else none
set_option maxHeartbeats 4000000 in
theorem t_lX6_insertKey_15 {G : rG} {ad : Nat → Nat} {o : (Unit × rS)}   : ∀ (n : Nat) (v1 : Int32) (v2 : Int32) (σ : rS) (h : rH), Rep G ad σ h → lX6_insertKey_15  n v1 v2 σ = some o → RW G mX6_insertKey (rm 0 0 0) (qV G ad o) xN 0 0 15 [(0, .ref (ad 10)), (1, .int v1), (2, .int v2)] [] h := by
  intro n
  induction n with
  | zero =>
    intro v1 v2 σ h hr hf
    rw [lX6_insertKey_15] at hf
    cases hf
  | succ n ih =>
    intro v1 v2 σ h hr hf
    rw [lX6_insertKey_15] at hf
    refine rw_iload_n dX6_insertKey_15 2 rfl rfl ?_
    refine rw_if_le (tgt := 51) dX6_insertKey_16 (by decide) (fun c3 => ?_) (fun c3 => ?_)
    · rw [if_pos c3] at hf
      exact t_jX6_insertKey_51 (ad := ad) (G := G)  v1 v2 σ _ hr hf
    · rw [if_neg c3] at hf
      refine rw_aload_n dX6_insertKey_19 0 rfl rfl ?_
      refine sg_10_7 hr dX6_insertKey_20 fl248 ?_
      refine rw_iload_n dX6_insertKey_23 2 rfl rfl ?_
      refine rw_iconst (v := 1) dX6_insertKey_24 (by decide) ?_
      refine rw_isub dX6_insertKey_25 ?_
      obtain ⟨hi4, hf⟩ := grd hf
      refine sl_15 hr dX6_insertKey_26 (inB_in hi4) ?_
      refine rw_iload_n dX6_insertKey_27 1 rfl rfl ?_
      refine rw_icmp_le (tgt := 51) dX6_insertKey_28 (by decide) (fun c5 => ?_) (fun c5 => ?_)
      · rw [if_pos c5] at hf
        exact t_jX6_insertKey_51 (ad := ad) (G := G)  v1 v2 σ _ hr hf
      · rw [if_neg c5] at hf
        refine rw_aload_n dX6_insertKey_31 0 rfl rfl ?_
        refine sg_10_7 hr dX6_insertKey_32 fl248 ?_
        refine rw_iload_n dX6_insertKey_35 2 rfl rfl ?_
        refine rw_aload_n dX6_insertKey_36 0 rfl rfl ?_
        refine sg_10_7 hr dX6_insertKey_37 fl248 ?_
        refine rw_iload_n dX6_insertKey_40 2 rfl rfl ?_
        refine rw_iconst (v := 1) dX6_insertKey_41 (by decide) ?_
        refine rw_isub dX6_insertKey_42 ?_
        obtain ⟨hi6, hf⟩ := grd hf
        refine sl_15 hr dX6_insertKey_43 (inB_in hi6) ?_
        obtain ⟨hi7, hf⟩ := grd hf
        refine ss_15 hr dX6_insertKey_44 (inB_in hi7) (fun h hr => ?_)
        refine nmS hf hr (fun σ8 hr hf => ?_)
        refine rw_iinc (v := v2 + (-1)) (lv2 := [(2, .int (v2 + (-1))), (0, .ref (ad 10)), (1, .int v1)]) dX6_insertKey_45 2 rfl rfl (by decide) rfl ?_
        refine nmL hf (fun x9 hf => ?_)
        refine rw_goto (tgt := 15) dX6_insertKey_48 (by decide) ?_
        refine rw_sub [1, 2, 0] rfl ?_
        exact ih v1 x9 σ8 _ hr hf
def fX6_insertKey (a0 : Int32) (σ : rS) : Option (Unit × rS) := if (σ.1 10 10) < 120 then vI (σ.1 10 10) fun x2 => lX6_insertKey_15 1000 a0 x2 σ else some ((), σ)
set_option maxHeartbeats 4000000 in
theorem cmX6_insertKey {G : rG} {ad : Nat → Nat} {a0 : Int32} {σ : rS} {h : rH} {o : (Unit × rS)} (hr : Rep G ad σ h) (hf : fX6_insertKey a0 σ = some o) : rMT G mX6_insertKey (rm 0 0 0) [.ref (ad 10), .int a0] h (qV G ad o) xN := by
  unfold fX6_insertKey at hf
  refine rw_met (by decide +kernel) rfl (Nat.le_of_ble_eq_true rfl) ?_
  show RW G _ _ _ _ 0 0 0 [(0, .ref (ad 10)), (1, .int a0)] [] h
  refine rw_aload_n dX6_insertKey_0 0 rfl rfl ?_
  refine sg_10_10 hr dX6_insertKey_1 fl251 ?_
  refine rw_bipush (v := 120) dX6_insertKey_4 (by decide) ?_
  refine rw_icmp_lt (tgt := 10) dX6_insertKey_6 (by decide) (fun c1 => ?_) (fun c1 => ?_)
  · rw [if_pos c1] at hf
    refine rw_aload_n dX6_insertKey_10 0 rfl rfl ?_
    refine sg_10_10 hr dX6_insertKey_11 fl251 ?_
    refine nmI hf (fun x2 hf => ?_)
    refine rw_istore_n (lv2 := [(2, .int x2), (0, .ref (ad 10)), (1, .int a0)]) dX6_insertKey_14 rfl (by decide) rfl ?_
    refine rw_sub [1, 2, 0] rfl ?_
    exact t_lX6_insertKey_15 (ad := ad) (G := G)  1000 a0 x2 σ _ hr hf
  · rw [if_neg c1] at hf
    replace hf := Option.some.inj hf
    subst hf
    exact rw_return dX6_insertKey_9 rfl ⟨rfl, hr⟩ (by decide) (by decide)
def lX6_orderPairs_30 (k7 : Int32 → rS → Option (Unit × rS)) : Nat → Int32 → Nat → Int32 → rS → Option (Unit × rS)
  | 0, _, _, _, _ => none
  | n + 1, v2, v3, v4, σ => if (σ.1 1 1) ≤ v4 then vI (v2 + 1) fun x7 => k7 x7 σ else if inB v4 16 then if isBo (80 + 4 * v4.toNatClampNeg) then if isPl v3 then if isPl v3 then if isPl (80 + 4 * v4.toNatClampNeg + 1) then (fX7_squareTo (80 + 4 * v4.toNatClampNeg + 1) (σ.1 v3 0) (σ.1 v3 1) σ).bind fun q12 => vI q12.1 fun x14 => (fX6_insertKey ((((x14 * 16) + v2) * 16) + v4) q12.2).bind fun q15 => vI (v4 + 1) fun x16 => (lX6_orderPairs_30 k7 n) v2 v3 x16 q15.2 else none else none else none else none else none
set_option maxHeartbeats 4000000 in
theorem t_lX6_orderPairs_30 {G : rG} {ad : Nat → Nat} {o : (Unit × rS)} (k7 : Int32 → rS → Option (Unit × rS)) (hk7 : ∀ (v2 : Int32) (σ : rS) (h : rH), Rep G ad σ h → k7 v2 σ = some o → RW G mX6_orderPairs (rm 1 0 0) (qV G ad o) xN 0 0 7 [(0, .ref (ad 10)), (1, .ref (ad 1)), (2, .int v2)] [] h) : ∀ (n : Nat) (v2 : Int32) (v3 : Nat) (v4 : Int32) (σ : rS) (h : rH), Rep G ad σ h → lX6_orderPairs_30 k7 n v2 v3 v4 σ = some o → RW G mX6_orderPairs (rm 1 0 0) (qV G ad o) xN 0 0 30 [(0, .ref (ad 10)), (1, .ref (ad 1)), (2, .int v2), (3, .ref (ad v3)), (4, .int v4)] [] h := by
  intro n
  induction n with
  | zero =>
    intro v2 v3 v4 σ h hr hf
    rw [lX6_orderPairs_30] at hf
    cases hf
  | succ n ih =>
    intro v2 v3 v4 σ h hr hf
    rw [lX6_orderPairs_30] at hf
    refine rw_iload dX6_orderPairs_30 4 rfl ?_
    refine rw_aload_n dX6_orderPairs_32 1 rfl rfl ?_
    refine sg_1_1 hr dX6_orderPairs_33 fl173 ?_
    refine rw_icmp_ge (tgt := 85) dX6_orderPairs_36 (by decide) (fun c6 => ?_) (fun c6 => ?_)
    · rw [if_pos c6] at hf
      refine rw_iinc (v := v2 + 1) (lv2 := [(2, .int (v2 + 1)), (0, .ref (ad 10)), (1, .ref (ad 1)), (3, .ref (ad v3)), (4, .int v4)]) dX6_orderPairs_85 2 rfl rfl (by decide) rfl ?_
      refine nmL hf (fun x7 hf => ?_)
      refine rw_goto (tgt := 7) dX6_orderPairs_88 (by decide) ?_
      refine rw_sub [1, 2, 0] rfl ?_
      exact hk7 x7 σ _ hr hf
    · rw [if_neg c6] at hf
      refine rw_aload_n dX6_orderPairs_39 1 rfl rfl ?_
      refine sg_1_0 hr dX6_orderPairs_40 fl168 ?_
      refine rw_iload dX6_orderPairs_43 4 rfl ?_
      obtain ⟨hi8, hf⟩ := grd hf
      refine sa_2 hr dX6_orderPairs_45 (inB_in hi8) ?_
      obtain ⟨hp9, hf⟩ := grd hf
      refine sg_Bo_0 hr dX6_orderPairs_46 fl137 hp9 ?_
      refine rw_aload_n dX6_orderPairs_49 3 rfl rfl ?_
      obtain ⟨hp10, hf⟩ := grd hf
      refine sg_Pl_0 hr dX6_orderPairs_50 fl123 hp10 ?_
      refine rw_aload_n dX6_orderPairs_53 3 rfl rfl ?_
      obtain ⟨hp11, hf⟩ := grd hf
      refine sg_Pl_1 hr dX6_orderPairs_54 fl127 hp11 ?_
      obtain ⟨hp13, hf⟩ := grd hf
      obtain ⟨q12, hq12, hf⟩ := bnd hf
      refine kV_I (ad := ad) (As := [.int (σ.1 v3 0), .int (σ.1 v3 1)]) (st := []) dX6_orderPairs_57 calX7_squareTo wm551 wm552 wm553 rfl rfl (rc_Pl hr hp13) (ci := 7) (by decide) rfl rfl (Nat.le_of_ble_eq_true rfl) ⟨⟨by decide, by decide⟩, by decide, by decide⟩ (cmX7_squareTo hr hq12) (fun h hr => ?_)
      refine nmI hf (fun x14 hf => ?_)
      refine rw_istore (lv2 := [(5, .int x14), (0, .ref (ad 10)), (1, .ref (ad 1)), (2, .int v2), (3, .ref (ad v3)), (4, .int v4)]) dX6_orderPairs_60 (by decide) rfl ?_
      refine rw_aload_n dX6_orderPairs_62 1 rfl rfl ?_
      refine rw_iload dX6_orderPairs_63 0 rfl ?_
      refine rw_bipush (v := 16) dX6_orderPairs_65 (by decide) ?_
      refine rw_imul dX6_orderPairs_67 ?_
      refine rw_iload_n dX6_orderPairs_68 3 rfl rfl ?_
      refine rw_iadd dX6_orderPairs_69 ?_
      refine rw_bipush (v := 16) dX6_orderPairs_70 (by decide) ?_
      refine rw_imul dX6_orderPairs_72 ?_
      refine rw_iload dX6_orderPairs_73 5 rfl ?_
      refine rw_iadd dX6_orderPairs_75 ?_
      obtain ⟨q15, hq15, hf⟩ := bnd hf
      refine kV_V (ad := ad) (As := [.int ((((x14 * 16) + v2) * 16) + v4)]) (st := []) dX6_orderPairs_76 calX6_insertKey wm555 wm557 wm2 rfl rfl (rc_10 hr) (ci := 6) (by decide) rfl rfl (Nat.le_of_ble_eq_true rfl) ⟨⟨by decide, by decide⟩, by decide, by decide⟩ (cmX6_insertKey hr hq15) (fun h hr => ?_)
      refine rw_iinc (v := v4 + 1) (lv2 := [(4, .int (v4 + 1)), (5, .int x14), (0, .ref (ad 10)), (1, .ref (ad 1)), (2, .int v2), (3, .ref (ad v3))]) dX6_orderPairs_79 5 rfl rfl (by decide) rfl ?_
      refine nmL hf (fun x16 hf => ?_)
      refine rw_goto (tgt := 30) dX6_orderPairs_82 (by decide) ?_
      refine rw_sub [2, 3, 4, 5, 0] rfl ?_
      exact ih v2 v3 x16 q15.2 _ hr hf
def lX6_orderPairs_7  : Nat → Int32 → rS → Option (Unit × rS)
  | 0, _, _ => none
  | n + 1, v2, σ => if (σ.1 1 1) ≤ v2 then some ((), σ) else if inB v2 16 then if isBo (80 + 4 * v2.toNatClampNeg) then vI (v2 + 1) fun x5 => lX6_orderPairs_30 (lX6_orderPairs_7 n) 1000 v2 (80 + 4 * v2.toNatClampNeg + 1) x5 σ else none else none
set_option maxHeartbeats 4000000 in
theorem t_lX6_orderPairs_7 {G : rG} {ad : Nat → Nat} {o : (Unit × rS)}   : ∀ (n : Nat) (v2 : Int32) (σ : rS) (h : rH), Rep G ad σ h → lX6_orderPairs_7  n v2 σ = some o → RW G mX6_orderPairs (rm 1 0 0) (qV G ad o) xN 0 0 7 [(0, .ref (ad 10)), (1, .ref (ad 1)), (2, .int v2)] [] h := by
  intro n
  induction n with
  | zero =>
    intro v2 σ h hr hf
    rw [lX6_orderPairs_7] at hf
    cases hf
  | succ n ih =>
    intro v2 σ h hr hf
    rw [lX6_orderPairs_7] at hf
    refine rw_iload_n dX6_orderPairs_7 2 rfl rfl ?_
    refine rw_aload_n dX6_orderPairs_8 1 rfl rfl ?_
    refine sg_1_1 hr dX6_orderPairs_9 fl173 ?_
    refine rw_icmp_ge (tgt := 91) dX6_orderPairs_12 (by decide) (fun c2 => ?_) (fun c2 => ?_)
    · rw [if_pos c2] at hf
      replace hf := Option.some.inj hf
      subst hf
      exact rw_return dX6_orderPairs_91 rfl ⟨rfl, hr⟩ (by decide) (by decide)
    · rw [if_neg c2] at hf
      refine rw_aload_n dX6_orderPairs_15 1 rfl rfl ?_
      refine sg_1_0 hr dX6_orderPairs_16 fl168 ?_
      refine rw_iload_n dX6_orderPairs_19 2 rfl rfl ?_
      obtain ⟨hi3, hf⟩ := grd hf
      refine sa_2 hr dX6_orderPairs_20 (inB_in hi3) ?_
      obtain ⟨hp4, hf⟩ := grd hf
      refine sg_Bo_0 hr dX6_orderPairs_21 fl137 hp4 ?_
      refine rw_astore_n (lv2 := [(3, .ref (ad (80 + 4 * v2.toNatClampNeg + 1))), (0, .ref (ad 10)), (1, .ref (ad 1)), (2, .int v2)]) dX6_orderPairs_24 rfl (by decide) rfl ?_
      refine rw_iload_n dX6_orderPairs_25 3 rfl rfl ?_
      refine rw_iconst (v := 1) dX6_orderPairs_26 (by decide) ?_
      refine rw_iadd dX6_orderPairs_27 ?_
      refine nmI hf (fun x5 hf => ?_)
      refine rw_istore (lv2 := [(4, .int x5), (3, .ref (ad (80 + 4 * v2.toNatClampNeg + 1))), (0, .ref (ad 10)), (1, .ref (ad 1)), (2, .int v2)]) dX6_orderPairs_28 (by decide) rfl ?_
      refine rw_sub [2, 3, 4, 1, 0] rfl ?_
      exact t_lX6_orderPairs_30 (ad := ad) (G := G) (lX6_orderPairs_7 n) ih 1000 v2 (80 + 4 * v2.toNatClampNeg + 1) x5 σ _ hr hf
def fX6_orderPairs  (σ : rS) : Option (Unit × rS) := vS (uI σ 10 10 0) fun σ1 => lX6_orderPairs_7 1000 0 σ1
set_option maxHeartbeats 4000000 in
theorem cmX6_orderPairs {G : rG} {ad : Nat → Nat}  {σ : rS} {h : rH} {o : (Unit × rS)} (hr : Rep G ad σ h) (hf : fX6_orderPairs  σ = some o) : rMT G mX6_orderPairs (rm 1 0 0) [.ref (ad 10), .ref (ad 1)] h (qV G ad o) xN := by
  unfold fX6_orderPairs at hf
  refine rw_met (by decide +kernel) rfl (Nat.le_of_ble_eq_true rfl) ?_
  show RW G _ _ _ _ 0 0 0 [(0, .ref (ad 10)), (1, .ref (ad 1))] [] h
  refine rw_aload_n dX6_orderPairs_0 0 rfl rfl ?_
  refine rw_iconst (v := 0) dX6_orderPairs_1 (by decide) ?_
  refine sp_10_10 hr dX6_orderPairs_2 fl251 (fun h hr => ?_)
  refine nmS hf hr (fun σ1 hr hf => ?_)
  refine rw_iconst (v := 0) dX6_orderPairs_5 (by decide) ?_
  refine rw_istore_n (lv2 := [(2, .int 0), (0, .ref (ad 10)), (1, .ref (ad 1))]) dX6_orderPairs_6 rfl (by decide) rfl ?_
  refine rw_sub [1, 2, 0] rfl ?_
  exact t_lX6_orderPairs_7 (ad := ad) (G := G)  1000 0 σ1 _ hr hf
def jX6_isBareWay_55 (k2 : Int32 → Int32 → Int32 → rS → Option (Int32 × rS)) (v1 : Int32) (v2 : Int32) (v3 : Int32) (σ : rS) : Option (Int32 × rS) := vI (v3 + 1) fun x12 => k2 v1 v2 x12 σ
set_option maxHeartbeats 4000000 in
theorem t_jX6_isBareWay_55 {G : rG} {ad : Nat → Nat} {o : (Int32 × rS)} (k2 : Int32 → Int32 → Int32 → rS → Option (Int32 × rS)) (hk2 : ∀ (v1 : Int32) (v2 : Int32) (v3 : Int32) (σ : rS) (h : rH), Rep G ad σ h → k2 v1 v2 v3 σ = some o → RW G mX6_isBareWay (rm 2 0 0) (qI G ad o) xN 0 0 2 [(0, .ref (ad 1)), (1, .int v1), (2, .int v2), (3, .int v3)] [] h) (v1 : Int32) (v2 : Int32) (v3 : Int32) (σ : rS) (h : rH) (hr : Rep G ad σ h) (hf : jX6_isBareWay_55 k2 v1 v2 v3 σ = some o) : RW G mX6_isBareWay (rm 2 0 0) (qI G ad o) xN 0 0 55 [(0, .ref (ad 1)), (1, .int v1), (2, .int v2), (3, .int v3)] [] h := by
  unfold jX6_isBareWay_55 at hf
  refine rw_iinc (v := v3 + 1) (lv2 := [(3, .int (v3 + 1)), (0, .ref (ad 1)), (1, .int v1), (2, .int v2)]) dX6_isBareWay_55 3 rfl rfl (by decide) rfl ?_
  refine nmL hf (fun x12 hf => ?_)
  refine rw_goto (tgt := 2) dX6_isBareWay_58 (by decide) ?_
  refine rw_sub [1, 2, 3, 0] rfl ?_
  exact hk2 v1 v2 x12 σ _ hr hf
def lX6_isBareWay_2  : Nat → Int32 → Int32 → Int32 → rS → Option (Int32 × rS)
  | 0, _, _, _, _ => none
  | n + 1, v1, v2, v3, σ => if (σ.1 1 1) ≤ v3 then some (1, σ) else if v3 = v1 then jX6_isBareWay_55 (lX6_isBareWay_2 n) v1 v2 v3 σ else if v3 = v2 then jX6_isBareWay_55 (lX6_isBareWay_2 n) v1 v2 v3 σ else if inB v1 16 then if isBo (80 + 4 * v1.toNatClampNeg) then if inB v2 16 then if isBo (80 + 4 * v2.toNatClampNeg) then if inB v3 16 then if isBo (80 + 4 * v3.toNatClampNeg) then (fX7_isOnWay (80 + 4 * v1.toNatClampNeg + 1) (80 + 4 * v2.toNatClampNeg + 1) (80 + 4 * v3.toNatClampNeg + 1) σ).bind fun q10 => (if q10.1 = 0 then jX6_isBareWay_55 (lX6_isBareWay_2 n) v1 v2 v3 q10.2 else some (0, q10.2)) else none else none else none else none else none else none
set_option maxHeartbeats 4000000 in
theorem t_lX6_isBareWay_2 {G : rG} {ad : Nat → Nat} {o : (Int32 × rS)}   : ∀ (n : Nat) (v1 : Int32) (v2 : Int32) (v3 : Int32) (σ : rS) (h : rH), Rep G ad σ h → lX6_isBareWay_2  n v1 v2 v3 σ = some o → RW G mX6_isBareWay (rm 2 0 0) (qI G ad o) xN 0 0 2 [(0, .ref (ad 1)), (1, .int v1), (2, .int v2), (3, .int v3)] [] h := by
  intro n
  induction n with
  | zero =>
    intro v1 v2 v3 σ h hr hf
    rw [lX6_isBareWay_2] at hf
    cases hf
  | succ n ih =>
    intro v1 v2 v3 σ h hr hf
    rw [lX6_isBareWay_2] at hf
    refine rw_iload_n dX6_isBareWay_2 3 rfl rfl ?_
    refine rw_aload_n dX6_isBareWay_3 0 rfl rfl ?_
    refine sg_1_1 hr dX6_isBareWay_4 fl173 ?_
    refine rw_icmp_ge (tgt := 61) dX6_isBareWay_7 (by decide) (fun c1 => ?_) (fun c1 => ?_)
    · rw [if_pos c1] at hf
      refine rw_iconst (v := 1) dX6_isBareWay_61 (by decide) ?_
      replace hf := Option.some.inj hf
      subst hf
      exact rw_zreturn dX6_isBareWay_62 rfl (by decide) ⟨rfl, hr⟩ (by decide) (by decide)
    · rw [if_neg c1] at hf
      refine rw_iload_n dX6_isBareWay_10 3 rfl rfl ?_
      refine rw_iload_n dX6_isBareWay_11 1 rfl rfl ?_
      refine rw_icmp_eq (tgt := 55) dX6_isBareWay_12 (by decide) (fun c2 => ?_) (fun c2 => ?_)
      · rw [if_pos c2] at hf
        exact t_jX6_isBareWay_55 (ad := ad) (G := G) (lX6_isBareWay_2 n) ih v1 v2 v3 σ _ hr hf
      · rw [if_neg c2] at hf
        refine rw_iload_n dX6_isBareWay_15 3 rfl rfl ?_
        refine rw_iload_n dX6_isBareWay_16 2 rfl rfl ?_
        refine rw_icmp_eq (tgt := 55) dX6_isBareWay_17 (by decide) (fun c3 => ?_) (fun c3 => ?_)
        · rw [if_pos c3] at hf
          exact t_jX6_isBareWay_55 (ad := ad) (G := G) (lX6_isBareWay_2 n) ih v1 v2 v3 σ _ hr hf
        · rw [if_neg c3] at hf
          refine rw_aload_n dX6_isBareWay_20 0 rfl rfl ?_
          refine sg_1_0 hr dX6_isBareWay_21 fl168 ?_
          refine rw_iload_n dX6_isBareWay_24 1 rfl rfl ?_
          obtain ⟨hi4, hf⟩ := grd hf
          refine sa_2 hr dX6_isBareWay_25 (inB_in hi4) ?_
          obtain ⟨hp5, hf⟩ := grd hf
          refine sg_Bo_0 hr dX6_isBareWay_26 fl137 hp5 ?_
          refine rw_aload_n dX6_isBareWay_29 0 rfl rfl ?_
          refine sg_1_0 hr dX6_isBareWay_30 fl168 ?_
          refine rw_iload_n dX6_isBareWay_33 2 rfl rfl ?_
          obtain ⟨hi6, hf⟩ := grd hf
          refine sa_2 hr dX6_isBareWay_34 (inB_in hi6) ?_
          obtain ⟨hp7, hf⟩ := grd hf
          refine sg_Bo_0 hr dX6_isBareWay_35 fl137 hp7 ?_
          refine rw_aload_n dX6_isBareWay_38 0 rfl rfl ?_
          refine sg_1_0 hr dX6_isBareWay_39 fl168 ?_
          refine rw_iload_n dX6_isBareWay_42 3 rfl rfl ?_
          obtain ⟨hi8, hf⟩ := grd hf
          refine sa_2 hr dX6_isBareWay_43 (inB_in hi8) ?_
          obtain ⟨hp9, hf⟩ := grd hf
          refine sg_Bo_0 hr dX6_isBareWay_44 fl137 hp9 ?_
          obtain ⟨q10, hq10, hf⟩ := bnd hf
          refine kS_I (ad := ad) (As := [.ref (ad (80 + 4 * v1.toNatClampNeg + 1)), .ref (ad (80 + 4 * v2.toNatClampNeg + 1)), .ref (ad (80 + 4 * v3.toNatClampNeg + 1))]) (st := []) dX6_isBareWay_47 calX7_isOnWay wm569 wm570 rfl rfl (Nat.le_of_ble_eq_true rfl) ⟨⟨by decide, by decide⟩, by decide, by decide⟩ (cmX7_isOnWay hr hq10) (fun h hr => ?_)
          refine rw_if_eq (tgt := 55) dX6_isBareWay_50 (by decide) (fun c11 => ?_) (fun c11 => ?_)
          · rw [if_pos c11] at hf
            exact t_jX6_isBareWay_55 (ad := ad) (G := G) (lX6_isBareWay_2 n) ih v1 v2 v3 q10.2 _ hr hf
          · rw [if_neg c11] at hf
            refine rw_iconst (v := 0) dX6_isBareWay_53 (by decide) ?_
            replace hf := Option.some.inj hf
            subst hf
            exact rw_zreturn dX6_isBareWay_54 rfl (by decide) ⟨rfl, hr⟩ (by decide) (by decide)
def fX6_isBareWay (a1 : Int32) (a2 : Int32) (σ : rS) : Option (Int32 × rS) := lX6_isBareWay_2 1000 a1 a2 0 σ
set_option maxHeartbeats 4000000 in
theorem cmX6_isBareWay {G : rG} {ad : Nat → Nat} {a1 : Int32} {a2 : Int32} {σ : rS} {h : rH} {o : (Int32 × rS)} (hr : Rep G ad σ h) (hf : fX6_isBareWay a1 a2 σ = some o) : rMT G mX6_isBareWay (rm 2 0 0) [.ref (ad 1), .int a1, .int a2] h (qI G ad o) xN := by
  unfold fX6_isBareWay at hf
  refine rw_met (by decide +kernel) rfl (Nat.le_of_ble_eq_true rfl) ?_
  show RW G _ _ _ _ 0 0 0 [(0, .ref (ad 1)), (1, .int a1), (2, .int a2)] [] h
  refine rw_iconst (v := 0) dX6_isBareWay_0 (by decide) ?_
  refine rw_istore_n (lv2 := [(3, .int 0), (0, .ref (ad 1)), (1, .int a1), (2, .int a2)]) dX6_isBareWay_1 rfl (by decide) rfl ?_
  refine rw_sub [1, 2, 3, 0] rfl ?_
  exact t_lX6_isBareWay_2 (ad := ad) (G := G)  1000 a1 a2 0 σ _ hr hf
def jX6_meetsNoEdge_112 (k3 : Int32 → Int32 → Int32 → rS → Option (Int32 × rS)) (v2 : Int32) (v3 : Int32) (v4 : Int32) (σ : rS) : Option (Int32 × rS) := vI (v4 + 1) fun x21 => k3 v2 v3 x21 σ
set_option maxHeartbeats 4000000 in
theorem t_jX6_meetsNoEdge_112 {G : rG} {ad : Nat → Nat} {o : (Int32 × rS)} (k3 : Int32 → Int32 → Int32 → rS → Option (Int32 × rS)) (hk3 : ∀ (v2 : Int32) (v3 : Int32) (v4 : Int32) (σ : rS) (h : rH), Rep G ad σ h → k3 v2 v3 v4 σ = some o → RW G mX6_meetsNoEdge (rm 3 0 0) (qI G ad o) xN 0 0 3 [(0, .ref (ad 10)), (1, .ref (ad 1)), (2, .int v2), (3, .int v3), (4, .int v4)] [] h) (v2 : Int32) (v3 : Int32) (v4 : Int32) (σ : rS) (h : rH) (hr : Rep G ad σ h) (hf : jX6_meetsNoEdge_112 k3 v2 v3 v4 σ = some o) : RW G mX6_meetsNoEdge (rm 3 0 0) (qI G ad o) xN 0 0 112 [(0, .ref (ad 10)), (1, .ref (ad 1)), (2, .int v2), (3, .int v3), (4, .int v4)] [] h := by
  unfold jX6_meetsNoEdge_112 at hf
  refine rw_iinc (v := v4 + 1) (lv2 := [(4, .int (v4 + 1)), (0, .ref (ad 10)), (1, .ref (ad 1)), (2, .int v2), (3, .int v3)]) dX6_meetsNoEdge_112 4 rfl rfl (by decide) rfl ?_
  refine nmL hf (fun x21 hf => ?_)
  refine rw_goto (tgt := 3) dX6_meetsNoEdge_115 (by decide) ?_
  refine rw_sub [1, 2, 3, 4, 0] rfl ?_
  exact hk3 v2 v3 x21 σ _ hr hf
def jX6_meetsNoEdge_59 (k3 : Int32 → Int32 → Int32 → rS → Option (Int32 × rS)) (v2 : Int32) (v3 : Int32) (v4 : Int32) (v5 : Int32) (v6 : Int32) (s0 : Int32) (σ : rS) : Option (Int32 × rS) := if s0 = 0 then if inB v2 16 then if isBo (80 + 4 * v2.toNatClampNeg) then if inB v3 16 then if isBo (80 + 4 * v3.toNatClampNeg) then if inB v5 16 then if isBo (80 + 4 * v5.toNatClampNeg) then if inB v6 16 then if isBo (80 + 4 * v6.toNatClampNeg) then (fX7_waysMeet (80 + 4 * v2.toNatClampNeg + 1) (80 + 4 * v3.toNatClampNeg + 1) (80 + 4 * v5.toNatClampNeg + 1) (80 + 4 * v6.toNatClampNeg + 1) σ).bind fun q19 => (if q19.1 = 0 then jX6_meetsNoEdge_112 k3 v2 v3 v4 q19.2 else some (0, q19.2)) else none else none else none else none else none else none else none else none else jX6_meetsNoEdge_112 k3 v2 v3 v4 σ
set_option maxHeartbeats 4000000 in
theorem t_jX6_meetsNoEdge_59 {G : rG} {ad : Nat → Nat} {o : (Int32 × rS)} (k3 : Int32 → Int32 → Int32 → rS → Option (Int32 × rS)) (hk3 : ∀ (v2 : Int32) (v3 : Int32) (v4 : Int32) (σ : rS) (h : rH), Rep G ad σ h → k3 v2 v3 v4 σ = some o → RW G mX6_meetsNoEdge (rm 3 0 0) (qI G ad o) xN 0 0 3 [(0, .ref (ad 10)), (1, .ref (ad 1)), (2, .int v2), (3, .int v3), (4, .int v4)] [] h) (v2 : Int32) (v3 : Int32) (v4 : Int32) (v5 : Int32) (v6 : Int32) (s0 : Int32) (σ : rS) (h : rH) (hr : Rep G ad σ h) (hf : jX6_meetsNoEdge_59 k3 v2 v3 v4 v5 v6 s0 σ = some o) : RW G mX6_meetsNoEdge (rm 3 0 0) (qI G ad o) xN 0 0 59 [(0, .ref (ad 10)), (1, .ref (ad 1)), (2, .int v2), (3, .int v3), (4, .int v4), (5, .int v5), (6, .int v6)] [.int s0] h := by
  unfold jX6_meetsNoEdge_59 at hf
  refine rw_istore (lv2 := [(7, .int s0), (0, .ref (ad 10)), (1, .ref (ad 1)), (2, .int v2), (3, .int v3), (4, .int v4), (5, .int v5), (6, .int v6)]) dX6_meetsNoEdge_59 (by decide) rfl ?_
  refine rw_iload dX6_meetsNoEdge_61 0 rfl ?_
  refine rw_if_ne (tgt := 112) dX6_meetsNoEdge_63 (by decide) (fun c10 => ?_) (fun c10 => ?_)
  · rw [if_neg c10] at hf
    refine rw_sub [1, 2, 3, 4, 5] rfl ?_
    exact t_jX6_meetsNoEdge_112 (ad := ad) (G := G) k3 hk3 v2 v3 v4 σ _ hr hf
  · rw [if_pos c10] at hf
    refine rw_aload_n dX6_meetsNoEdge_66 2 rfl rfl ?_
    refine sg_1_0 hr dX6_meetsNoEdge_67 fl168 ?_
    refine rw_iload_n dX6_meetsNoEdge_70 3 rfl rfl ?_
    obtain ⟨hi11, hf⟩ := grd hf
    refine sa_2 hr dX6_meetsNoEdge_71 (inB_in hi11) ?_
    obtain ⟨hp12, hf⟩ := grd hf
    refine sg_Bo_0 hr dX6_meetsNoEdge_72 fl137 hp12 ?_
    refine rw_aload_n dX6_meetsNoEdge_75 2 rfl rfl ?_
    refine sg_1_0 hr dX6_meetsNoEdge_76 fl168 ?_
    refine rw_iload_n dX6_meetsNoEdge_79 4 rfl rfl ?_
    obtain ⟨hi13, hf⟩ := grd hf
    refine sa_2 hr dX6_meetsNoEdge_80 (inB_in hi13) ?_
    obtain ⟨hp14, hf⟩ := grd hf
    refine sg_Bo_0 hr dX6_meetsNoEdge_81 fl137 hp14 ?_
    refine rw_aload_n dX6_meetsNoEdge_84 2 rfl rfl ?_
    refine sg_1_0 hr dX6_meetsNoEdge_85 fl168 ?_
    refine rw_iload dX6_meetsNoEdge_88 6 rfl ?_
    obtain ⟨hi15, hf⟩ := grd hf
    refine sa_2 hr dX6_meetsNoEdge_90 (inB_in hi15) ?_
    obtain ⟨hp16, hf⟩ := grd hf
    refine sg_Bo_0 hr dX6_meetsNoEdge_91 fl137 hp16 ?_
    refine rw_aload_n dX6_meetsNoEdge_94 2 rfl rfl ?_
    refine sg_1_0 hr dX6_meetsNoEdge_95 fl168 ?_
    refine rw_iload dX6_meetsNoEdge_98 7 rfl ?_
    obtain ⟨hi17, hf⟩ := grd hf
    refine sa_2 hr dX6_meetsNoEdge_100 (inB_in hi17) ?_
    obtain ⟨hp18, hf⟩ := grd hf
    refine sg_Bo_0 hr dX6_meetsNoEdge_101 fl137 hp18 ?_
    obtain ⟨q19, hq19, hf⟩ := bnd hf
    refine kS_I (ad := ad) (As := [.ref (ad (80 + 4 * v2.toNatClampNeg + 1)), .ref (ad (80 + 4 * v3.toNatClampNeg + 1)), .ref (ad (80 + 4 * v5.toNatClampNeg + 1)), .ref (ad (80 + 4 * v6.toNatClampNeg + 1))]) (st := []) dX6_meetsNoEdge_104 calX7_waysMeet wm586 wm587 rfl rfl (Nat.le_of_ble_eq_true rfl) ⟨⟨by decide, by decide⟩, by decide, by decide⟩ (cmX7_waysMeet hr hq19) (fun h hr => ?_)
    refine rw_if_eq (tgt := 112) dX6_meetsNoEdge_107 (by decide) (fun c20 => ?_) (fun c20 => ?_)
    · rw [if_pos c20] at hf
      refine rw_sub [1, 2, 3, 4, 5] rfl ?_
      exact t_jX6_meetsNoEdge_112 (ad := ad) (G := G) k3 hk3 v2 v3 v4 q19.2 _ hr hf
    · rw [if_neg c20] at hf
      refine rw_iconst (v := 0) dX6_meetsNoEdge_110 (by decide) ?_
      replace hf := Option.some.inj hf
      subst hf
      exact rw_zreturn dX6_meetsNoEdge_111 rfl (by decide) ⟨rfl, hr⟩ (by decide) (by decide)
def jX6_meetsNoEdge_54 (k3 : Int32 → Int32 → Int32 → rS → Option (Int32 × rS)) (v2 : Int32) (v3 : Int32) (v4 : Int32) (v5 : Int32) (v6 : Int32) (σ : rS) : Option (Int32 × rS) := jX6_meetsNoEdge_59 k3 v2 v3 v4 v5 v6 1 σ
set_option maxHeartbeats 4000000 in
theorem t_jX6_meetsNoEdge_54 {G : rG} {ad : Nat → Nat} {o : (Int32 × rS)} (k3 : Int32 → Int32 → Int32 → rS → Option (Int32 × rS)) (hk3 : ∀ (v2 : Int32) (v3 : Int32) (v4 : Int32) (σ : rS) (h : rH), Rep G ad σ h → k3 v2 v3 v4 σ = some o → RW G mX6_meetsNoEdge (rm 3 0 0) (qI G ad o) xN 0 0 3 [(0, .ref (ad 10)), (1, .ref (ad 1)), (2, .int v2), (3, .int v3), (4, .int v4)] [] h) (v2 : Int32) (v3 : Int32) (v4 : Int32) (v5 : Int32) (v6 : Int32) (σ : rS) (h : rH) (hr : Rep G ad σ h) (hf : jX6_meetsNoEdge_54 k3 v2 v3 v4 v5 v6 σ = some o) : RW G mX6_meetsNoEdge (rm 3 0 0) (qI G ad o) xN 0 0 54 [(0, .ref (ad 10)), (1, .ref (ad 1)), (2, .int v2), (3, .int v3), (4, .int v4), (5, .int v5), (6, .int v6)] [] h := by
  unfold jX6_meetsNoEdge_54 at hf
  refine rw_iconst (v := 1) dX6_meetsNoEdge_54 (by decide) ?_
  refine rw_goto (tgt := 59) dX6_meetsNoEdge_55 (by decide) ?_
  exact t_jX6_meetsNoEdge_59 (ad := ad) (G := G) k3 hk3 v2 v3 v4 v5 v6 1 σ _ hr hf
def lX6_meetsNoEdge_3  : Nat → Int32 → Int32 → Int32 → rS → Option (Int32 × rS)
  | 0, _, _, _, _ => none
  | n + 1, v2, v3, v4, σ => if (σ.1 10 4) ≤ v4 then some (1, σ) else if inB v4 42 then vI (σ.2.2.1 11 v4.toNatClampNeg) fun x3 => if inB v4 42 then vI (σ.2.2.1 12 v4.toNatClampNeg) fun x5 => (if v2 = x3 then jX6_meetsNoEdge_54 (lX6_meetsNoEdge_3 n) v2 v3 v4 x3 x5 σ else if v2 = x5 then jX6_meetsNoEdge_54 (lX6_meetsNoEdge_3 n) v2 v3 v4 x3 x5 σ else if v3 = x3 then jX6_meetsNoEdge_54 (lX6_meetsNoEdge_3 n) v2 v3 v4 x3 x5 σ else if v3 = x5 then jX6_meetsNoEdge_54 (lX6_meetsNoEdge_3 n) v2 v3 v4 x3 x5 σ else jX6_meetsNoEdge_59 (lX6_meetsNoEdge_3 n) v2 v3 v4 x3 x5 0 σ) else none else none
set_option maxHeartbeats 4000000 in
theorem t_lX6_meetsNoEdge_3 {G : rG} {ad : Nat → Nat} {o : (Int32 × rS)}   : ∀ (n : Nat) (v2 : Int32) (v3 : Int32) (v4 : Int32) (σ : rS) (h : rH), Rep G ad σ h → lX6_meetsNoEdge_3  n v2 v3 v4 σ = some o → RW G mX6_meetsNoEdge (rm 3 0 0) (qI G ad o) xN 0 0 3 [(0, .ref (ad 10)), (1, .ref (ad 1)), (2, .int v2), (3, .int v3), (4, .int v4)] [] h := by
  intro n
  induction n with
  | zero =>
    intro v2 v3 v4 σ h hr hf
    rw [lX6_meetsNoEdge_3] at hf
    cases hf
  | succ n ih =>
    intro v2 v3 v4 σ h hr hf
    rw [lX6_meetsNoEdge_3] at hf
    refine rw_iload dX6_meetsNoEdge_3 4 rfl ?_
    refine rw_aload_n dX6_meetsNoEdge_5 0 rfl rfl ?_
    refine sg_10_4 hr dX6_meetsNoEdge_6 fl241 ?_
    refine rw_icmp_ge (tgt := 118) dX6_meetsNoEdge_9 (by decide) (fun c1 => ?_) (fun c1 => ?_)
    · rw [if_pos c1] at hf
      refine rw_iconst (v := 1) dX6_meetsNoEdge_118 (by decide) ?_
      replace hf := Option.some.inj hf
      subst hf
      exact rw_zreturn dX6_meetsNoEdge_119 rfl (by decide) ⟨rfl, hr⟩ (by decide) (by decide)
    · rw [if_neg c1] at hf
      refine rw_aload_n dX6_meetsNoEdge_12 0 rfl rfl ?_
      refine sg_10_0 hr dX6_meetsNoEdge_13 fl228 ?_
      refine rw_iload dX6_meetsNoEdge_16 4 rfl ?_
      obtain ⟨hi2, hf⟩ := grd hf
      refine sl_11 hr dX6_meetsNoEdge_18 (inB_in hi2) ?_
      refine nmI hf (fun x3 hf => ?_)
      refine rw_istore (lv2 := [(5, .int x3), (0, .ref (ad 10)), (1, .ref (ad 1)), (2, .int v2), (3, .int v3), (4, .int v4)]) dX6_meetsNoEdge_19 (by decide) rfl ?_
      refine rw_aload_n dX6_meetsNoEdge_21 1 rfl rfl ?_
      refine sg_10_1 hr dX6_meetsNoEdge_22 fl231 ?_
      refine rw_iload dX6_meetsNoEdge_25 5 rfl ?_
      obtain ⟨hi4, hf⟩ := grd hf
      refine sl_12 hr dX6_meetsNoEdge_27 (inB_in hi4) ?_
      refine nmI hf (fun x5 hf => ?_)
      refine rw_istore (lv2 := [(6, .int x5), (5, .int x3), (0, .ref (ad 10)), (1, .ref (ad 1)), (2, .int v2), (3, .int v3), (4, .int v4)]) dX6_meetsNoEdge_28 (by decide) rfl ?_
      refine rw_iload_n dX6_meetsNoEdge_30 4 rfl rfl ?_
      refine rw_iload dX6_meetsNoEdge_31 1 rfl ?_
      refine rw_icmp_eq (tgt := 54) dX6_meetsNoEdge_33 (by decide) (fun c6 => ?_) (fun c6 => ?_)
      · rw [if_pos c6] at hf
        refine rw_sub [2, 3, 4, 5, 6, 1, 0] rfl ?_
        exact t_jX6_meetsNoEdge_54 (ad := ad) (G := G) (lX6_meetsNoEdge_3 n) ih v2 v3 v4 x3 x5 σ _ hr hf
      · rw [if_neg c6] at hf
        refine rw_iload_n dX6_meetsNoEdge_36 4 rfl rfl ?_
        refine rw_iload dX6_meetsNoEdge_37 0 rfl ?_
        refine rw_icmp_eq (tgt := 54) dX6_meetsNoEdge_39 (by decide) (fun c7 => ?_) (fun c7 => ?_)
        · rw [if_pos c7] at hf
          refine rw_sub [2, 3, 4, 5, 6, 1, 0] rfl ?_
          exact t_jX6_meetsNoEdge_54 (ad := ad) (G := G) (lX6_meetsNoEdge_3 n) ih v2 v3 v4 x3 x5 σ _ hr hf
        · rw [if_neg c7] at hf
          refine rw_iload_n dX6_meetsNoEdge_42 5 rfl rfl ?_
          refine rw_iload dX6_meetsNoEdge_43 1 rfl ?_
          refine rw_icmp_eq (tgt := 54) dX6_meetsNoEdge_45 (by decide) (fun c8 => ?_) (fun c8 => ?_)
          · rw [if_pos c8] at hf
            refine rw_sub [2, 3, 4, 5, 6, 1, 0] rfl ?_
            exact t_jX6_meetsNoEdge_54 (ad := ad) (G := G) (lX6_meetsNoEdge_3 n) ih v2 v3 v4 x3 x5 σ _ hr hf
          · rw [if_neg c8] at hf
            refine rw_iload_n dX6_meetsNoEdge_48 5 rfl rfl ?_
            refine rw_iload dX6_meetsNoEdge_49 0 rfl ?_
            refine rw_icmp_ne (tgt := 58) dX6_meetsNoEdge_51 (by decide) (fun c9 => ?_) (fun c9 => ?_)
            · rw [if_neg c9] at hf
              refine rw_iconst (v := 0) dX6_meetsNoEdge_58 (by decide) ?_
              refine rw_sub [2, 3, 4, 5, 6, 1, 0] rfl ?_
              exact t_jX6_meetsNoEdge_59 (ad := ad) (G := G) (lX6_meetsNoEdge_3 n) ih v2 v3 v4 x3 x5 0 σ _ hr hf
            · rw [if_pos c9] at hf
              refine rw_sub [2, 3, 4, 5, 6, 1, 0] rfl ?_
              exact t_jX6_meetsNoEdge_54 (ad := ad) (G := G) (lX6_meetsNoEdge_3 n) ih v2 v3 v4 x3 x5 σ _ hr hf
def fX6_meetsNoEdge (a1 : Int32) (a2 : Int32) (σ : rS) : Option (Int32 × rS) := lX6_meetsNoEdge_3 1000 a1 a2 0 σ
set_option maxHeartbeats 4000000 in
theorem cmX6_meetsNoEdge {G : rG} {ad : Nat → Nat} {a1 : Int32} {a2 : Int32} {σ : rS} {h : rH} {o : (Int32 × rS)} (hr : Rep G ad σ h) (hf : fX6_meetsNoEdge a1 a2 σ = some o) : rMT G mX6_meetsNoEdge (rm 3 0 0) [.ref (ad 10), .ref (ad 1), .int a1, .int a2] h (qI G ad o) xN := by
  unfold fX6_meetsNoEdge at hf
  refine rw_met (by decide +kernel) rfl (Nat.le_of_ble_eq_true rfl) ?_
  show RW G _ _ _ _ 0 0 0 [(0, .ref (ad 10)), (1, .ref (ad 1)), (2, .int a1), (3, .int a2)] [] h
  refine rw_iconst (v := 0) dX6_meetsNoEdge_0 (by decide) ?_
  refine rw_istore (lv2 := [(4, .int 0), (0, .ref (ad 10)), (1, .ref (ad 1)), (2, .int a1), (3, .int a2)]) dX6_meetsNoEdge_1 (by decide) rfl ?_
  refine rw_sub [1, 2, 3, 4, 0] rfl ?_
  exact t_lX6_meetsNoEdge_3 (ad := ad) (G := G)  1000 a1 a2 0 σ _ hr hf
def jX6_takeEdge_87   (σ : rS) : Option (Unit × rS) := vS (uI σ 10 4 ((σ.1 10 4) + 1)) fun σ14 => some ((), σ14)
set_option maxHeartbeats 4000000 in
theorem t_jX6_takeEdge_87 {G : rG} {ad : Nat → Nat} {o : (Unit × rS)}    (σ : rS) (h : rH) (hr : Rep G ad σ h) (hf : jX6_takeEdge_87   σ = some o) : RW G mX6_takeEdge (rm 0 0 0) (qV G ad o) xN 0 0 87 [(0, .ref (ad 10))] [] h := by
  unfold jX6_takeEdge_87 at hf
  refine rw_aload_n dX6_takeEdge_87 0 rfl rfl ?_
  refine rw_dup dX6_takeEdge_88 rfl ?_
  refine sg_10_4 hr dX6_takeEdge_89 fl241 ?_
  refine rw_iconst (v := 1) dX6_takeEdge_92 (by decide) ?_
  refine rw_iadd dX6_takeEdge_93 ?_
  refine sp_10_4 hr dX6_takeEdge_94 fl241 (fun h hr => ?_)
  refine nmS hf hr (fun σ14 hr hf => ?_)
  replace hf := Option.some.inj hf
  subst hf
  exact rw_return dX6_takeEdge_97 rfl ⟨rfl, hr⟩ (by decide) (by decide)
def fX6_takeEdge (a0 : Int32) (a1 : Int32) (a2 : Int32) (σ : rS) : Option (Unit × rS) := if (σ.1 10 4) < 42 then if inB (σ.1 10 4) 42 then vS (uA σ 11 (σ.1 10 4).toNatClampNeg a0) fun σ3 => if inB (σ3.1 10 4) 42 then vS (uA σ3 12 (σ3.1 10 4).toNatClampNeg a1) fun σ5 => if inB (σ5.1 10 4) 42 then vS (uA σ5 13 (σ5.1 10 4).toNatClampNeg (vp_nar .boolean a2)) fun σ7 => (if a2 = 0 then if inB ((a0 * 16) + a1) 256 then vS (uA σ7 16 ((a0 * 16) + a1).toNatClampNeg (σ7.1 10 4)) fun σ10 => if inB ((a1 * 16) + a0) 256 then vS (uA σ10 16 ((a1 * 16) + a0).toNatClampNeg (σ10.1 10 4)) fun σ12 => jX6_takeEdge_87 σ12 else none else none else vS (uI σ7 10 5 ((σ7.1 10 5) + 1)) fun σ13 => jX6_takeEdge_87 σ13) else none else none else none else some ((), σ)
set_option maxHeartbeats 4000000 in
theorem cmX6_takeEdge {G : rG} {ad : Nat → Nat} {a0 : Int32} {a1 : Int32} {a2 : Int32} {σ : rS} {h : rH} {o : (Unit × rS)} (hr : Rep G ad σ h) (hf : fX6_takeEdge a0 a1 a2 σ = some o) : rMT G mX6_takeEdge (rm 0 0 0) [.ref (ad 10), .int a0, .int a1, .int a2] h (qV G ad o) xN := by
  unfold fX6_takeEdge at hf
  refine rw_met (by decide +kernel) rfl (Nat.le_of_ble_eq_true rfl) ?_
  show RW G _ _ _ _ 0 0 0 [(0, .ref (ad 10)), (1, .int a0), (2, .int a1), (3, .int a2)] [] h
  refine rw_aload_n dX6_takeEdge_0 0 rfl rfl ?_
  refine sg_10_4 hr dX6_takeEdge_1 fl241 ?_
  refine rw_bipush (v := 42) dX6_takeEdge_4 (by decide) ?_
  refine rw_icmp_lt (tgt := 10) dX6_takeEdge_6 (by decide) (fun c1 => ?_) (fun c1 => ?_)
  · rw [if_pos c1] at hf
    refine rw_aload_n dX6_takeEdge_10 0 rfl rfl ?_
    refine sg_10_0 hr dX6_takeEdge_11 fl228 ?_
    refine rw_aload_n dX6_takeEdge_14 0 rfl rfl ?_
    refine sg_10_4 hr dX6_takeEdge_15 fl241 ?_
    refine rw_iload_n dX6_takeEdge_18 1 rfl rfl ?_
    obtain ⟨hi2, hf⟩ := grd hf
    refine ss_11 hr dX6_takeEdge_19 (inB_in hi2) (fun h hr => ?_)
    refine nmS hf hr (fun σ3 hr hf => ?_)
    refine rw_aload_n dX6_takeEdge_20 0 rfl rfl ?_
    refine sg_10_1 hr dX6_takeEdge_21 fl231 ?_
    refine rw_aload_n dX6_takeEdge_24 0 rfl rfl ?_
    refine sg_10_4 hr dX6_takeEdge_25 fl241 ?_
    refine rw_iload_n dX6_takeEdge_28 2 rfl rfl ?_
    obtain ⟨hi4, hf⟩ := grd hf
    refine ss_12 hr dX6_takeEdge_29 (inB_in hi4) (fun h hr => ?_)
    refine nmS hf hr (fun σ5 hr hf => ?_)
    refine rw_aload_n dX6_takeEdge_30 0 rfl rfl ?_
    refine sg_10_2 hr dX6_takeEdge_31 fl234 ?_
    refine rw_aload_n dX6_takeEdge_34 0 rfl rfl ?_
    refine sg_10_4 hr dX6_takeEdge_35 fl241 ?_
    refine rw_iload_n dX6_takeEdge_38 3 rfl rfl ?_
    obtain ⟨hi6, hf⟩ := grd hf
    refine ss_13 hr dX6_takeEdge_39 (inB_in hi6) (fun h hr => ?_)
    refine nmS hf hr (fun σ7 hr hf => ?_)
    refine rw_iload_n dX6_takeEdge_40 3 rfl rfl ?_
    refine rw_if_eq (tgt := 57) dX6_takeEdge_41 (by decide) (fun c8 => ?_) (fun c8 => ?_)
    · rw [if_pos c8] at hf
      refine rw_aload_n dX6_takeEdge_57 0 rfl rfl ?_
      refine sg_10_8 hr dX6_takeEdge_58 fl249 ?_
      refine rw_iload_n dX6_takeEdge_61 1 rfl rfl ?_
      refine rw_bipush (v := 16) dX6_takeEdge_62 (by decide) ?_
      refine rw_imul dX6_takeEdge_64 ?_
      refine rw_iload_n dX6_takeEdge_65 2 rfl rfl ?_
      refine rw_iadd dX6_takeEdge_66 ?_
      refine rw_aload_n dX6_takeEdge_67 0 rfl rfl ?_
      refine sg_10_4 hr dX6_takeEdge_68 fl241 ?_
      obtain ⟨hi9, hf⟩ := grd hf
      refine ss_16 hr dX6_takeEdge_71 (inB_in hi9) (fun h hr => ?_)
      refine nmS hf hr (fun σ10 hr hf => ?_)
      refine rw_aload_n dX6_takeEdge_72 0 rfl rfl ?_
      refine sg_10_8 hr dX6_takeEdge_73 fl249 ?_
      refine rw_iload_n dX6_takeEdge_76 2 rfl rfl ?_
      refine rw_bipush (v := 16) dX6_takeEdge_77 (by decide) ?_
      refine rw_imul dX6_takeEdge_79 ?_
      refine rw_iload_n dX6_takeEdge_80 1 rfl rfl ?_
      refine rw_iadd dX6_takeEdge_81 ?_
      refine rw_aload_n dX6_takeEdge_82 0 rfl rfl ?_
      refine sg_10_4 hr dX6_takeEdge_83 fl241 ?_
      obtain ⟨hi11, hf⟩ := grd hf
      refine ss_16 hr dX6_takeEdge_86 (inB_in hi11) (fun h hr => ?_)
      refine nmS hf hr (fun σ12 hr hf => ?_)
      refine rw_sub [0] rfl ?_
      exact t_jX6_takeEdge_87 (ad := ad) (G := G)  σ12 _ hr hf
    · rw [if_neg c8] at hf
      refine rw_aload_n dX6_takeEdge_44 0 rfl rfl ?_
      refine rw_dup dX6_takeEdge_45 rfl ?_
      refine sg_10_5 hr dX6_takeEdge_46 fl243 ?_
      refine rw_iconst (v := 1) dX6_takeEdge_49 (by decide) ?_
      refine rw_iadd dX6_takeEdge_50 ?_
      refine sp_10_5 hr dX6_takeEdge_51 fl243 (fun h hr => ?_)
      refine nmS hf hr (fun σ13 hr hf => ?_)
      refine rw_goto (tgt := 87) dX6_takeEdge_54 (by decide) ?_
      refine rw_sub [0] rfl ?_
      exact t_jX6_takeEdge_87 (ad := ad) (G := G)  σ13 _ hr hf
  · rw [if_neg c1] at hf
    replace hf := Option.some.inj hf
    subst hf
    exact rw_return dX6_takeEdge_9 rfl ⟨rfl, hr⟩ (by decide) (by decide)
def jX6_takeEdges_108 (k20 : Int32 → rS → Option (Unit × rS)) (v3 : Int32) (σ : rS) : Option (Unit × rS) := vI (v3 + 1) fun x22 => k20 x22 σ
set_option maxHeartbeats 4000000 in
theorem t_jX6_takeEdges_108 {G : rG} {ad : Nat → Nat} {o : (Unit × rS)} (k20 : Int32 → rS → Option (Unit × rS)) (hk20 : ∀ (v3 : Int32) (σ : rS) (h : rH), Rep G ad σ h → k20 v3 σ = some o → RW G mX6_takeEdges (rm 4 0 0) (qV G ad o) xN 0 0 20 [(0, .ref (ad 10)), (1, .ref (ad 1)), (2, .ref (ad 3)), (3, .int v3)] [] h) (v3 : Int32) (σ : rS) (h : rH) (hr : Rep G ad σ h) (hf : jX6_takeEdges_108 k20 v3 σ = some o) : RW G mX6_takeEdges (rm 4 0 0) (qV G ad o) xN 0 0 108 [(0, .ref (ad 10)), (1, .ref (ad 1)), (2, .ref (ad 3)), (3, .int v3)] [] h := by
  unfold jX6_takeEdges_108 at hf
  refine rw_iinc (v := v3 + 1) (lv2 := [(3, .int (v3 + 1)), (0, .ref (ad 10)), (1, .ref (ad 1)), (2, .ref (ad 3))]) dX6_takeEdges_108 3 rfl rfl (by decide) rfl ?_
  refine nmL hf (fun x22 hf => ?_)
  refine rw_goto (tgt := 20) dX6_takeEdges_111 (by decide) ?_
  refine rw_sub [1, 2, 3, 0] rfl ?_
  exact hk20 x22 σ _ hr hf
def lX6_takeEdges_20  : Nat → Int32 → rS → Option (Unit × rS)
  | 0, _, _ => none
  | n + 1, v3, σ => if (σ.1 10 10) ≤ v3 then some ((), σ) else if inB v3 120 then vI (((σ.2.2.1 15 v3.toNatClampNeg) / 16) - ((σ.2.2.1 15 v3.toNatClampNeg) / 16) / 16 * 16) fun x8 => if inB v3 120 then vI ((σ.2.2.1 15 v3.toNatClampNeg) - (σ.2.2.1 15 v3.toNatClampNeg) / 16 * 16) fun x11 => (fX6_isBareWay x8 x11 σ).bind fun q12 => (if q12.1 = 0 then jX6_takeEdges_108 (lX6_takeEdges_20 n) v3 q12.2 else (fX6_meetsNoEdge x8 x11 q12.2).bind fun q14 => if q14.1 = 0 then jX6_takeEdges_108 (lX6_takeEdges_20 n) v3 q14.2 else if inB x8 16 then if isBo (80 + 4 * x8.toNatClampNeg) then if inB x11 16 then if isBo (80 + 4 * x11.toNatClampNeg) then (fX3_breakWay (80 + 4 * x8.toNatClampNeg + 1) (80 + 4 * x11.toNatClampNeg + 1) q14.2).bind fun q20 => (fX6_takeEdge x8 x11 q20.1 q20.2).bind fun q21 => jX6_takeEdges_108 (lX6_takeEdges_20 n) v3 q21.2 else none else none else none else none) else none else none
set_option maxHeartbeats 4000000 in
theorem t_lX6_takeEdges_20 {G : rG} {ad : Nat → Nat} {o : (Unit × rS)}   : ∀ (n : Nat) (v3 : Int32) (σ : rS) (h : rH), Rep G ad σ h → lX6_takeEdges_20  n v3 σ = some o → RW G mX6_takeEdges (rm 4 0 0) (qV G ad o) xN 0 0 20 [(0, .ref (ad 10)), (1, .ref (ad 1)), (2, .ref (ad 3)), (3, .int v3)] [] h := by
  intro n
  induction n with
  | zero =>
    intro v3 σ h hr hf
    rw [lX6_takeEdges_20] at hf
    cases hf
  | succ n ih =>
    intro v3 σ h hr hf
    rw [lX6_takeEdges_20] at hf
    refine rw_iload_n dX6_takeEdges_20 3 rfl rfl ?_
    refine rw_aload_n dX6_takeEdges_21 0 rfl rfl ?_
    refine sg_10_10 hr dX6_takeEdges_22 fl251 ?_
    refine rw_icmp_ge (tgt := 114) dX6_takeEdges_25 (by decide) (fun c4 => ?_) (fun c4 => ?_)
    · rw [if_pos c4] at hf
      replace hf := Option.some.inj hf
      subst hf
      exact rw_return dX6_takeEdges_114 rfl ⟨rfl, hr⟩ (by decide) (by decide)
    · rw [if_neg c4] at hf
      refine rw_aload_n dX6_takeEdges_28 0 rfl rfl ?_
      refine sg_10_7 hr dX6_takeEdges_29 fl248 ?_
      refine rw_iload_n dX6_takeEdges_32 3 rfl rfl ?_
      obtain ⟨hi5, hf⟩ := grd hf
      refine sl_15 hr dX6_takeEdges_33 (inB_in hi5) ?_
      refine rw_bipush (v := 16) dX6_takeEdges_34 (by decide) ?_
      refine rw_idiv dX6_takeEdges_36 (by decide) ?_
      refine rw_bipush (v := 16) dX6_takeEdges_37 (by decide) ?_
      refine rw_irem dX6_takeEdges_39 (by decide) ?_
      refine nmI hf (fun x8 hf => ?_)
      refine rw_istore (lv2 := [(4, .int x8), (0, .ref (ad 10)), (1, .ref (ad 1)), (2, .ref (ad 3)), (3, .int v3)]) dX6_takeEdges_40 (by decide) rfl ?_
      refine rw_aload_n dX6_takeEdges_42 1 rfl rfl ?_
      refine sg_10_7 hr dX6_takeEdges_43 fl248 ?_
      refine rw_iload_n dX6_takeEdges_46 4 rfl rfl ?_
      obtain ⟨hi9, hf⟩ := grd hf
      refine sl_15 hr dX6_takeEdges_47 (inB_in hi9) ?_
      refine rw_bipush (v := 16) dX6_takeEdges_48 (by decide) ?_
      refine rw_irem dX6_takeEdges_50 (by decide) ?_
      refine nmI hf (fun x11 hf => ?_)
      refine rw_istore (lv2 := [(5, .int x11), (4, .int x8), (0, .ref (ad 10)), (1, .ref (ad 1)), (2, .ref (ad 3)), (3, .int v3)]) dX6_takeEdges_51 (by decide) rfl ?_
      refine rw_aload_n dX6_takeEdges_53 3 rfl rfl ?_
      refine rw_iload dX6_takeEdges_54 1 rfl ?_
      refine rw_iload dX6_takeEdges_56 0 rfl ?_
      obtain ⟨q12, hq12, hf⟩ := bnd hf
      refine kS_I (ad := ad) (As := [.ref (ad 1), .int x8, .int x11]) (st := []) dX6_takeEdges_58 calX6_isBareWay wm566 wm567 rfl rfl (Nat.le_of_ble_eq_true rfl) ⟨⟨by decide, by decide⟩, by decide, by decide⟩ (cmX6_isBareWay hr hq12) (fun h hr => ?_)
      refine rw_if_eq (tgt := 108) dX6_takeEdges_61 (by decide) (fun c13 => ?_) (fun c13 => ?_)
      · rw [if_pos c13] at hf
        refine rw_sub [2, 3, 4, 5] rfl ?_
        exact t_jX6_takeEdges_108 (ad := ad) (G := G) (lX6_takeEdges_20 n) ih v3 q12.2 _ hr hf
      · rw [if_neg c13] at hf
        refine rw_aload_n dX6_takeEdges_64 2 rfl rfl ?_
        refine rw_aload_n dX6_takeEdges_65 3 rfl rfl ?_
        refine rw_iload dX6_takeEdges_66 1 rfl ?_
        refine rw_iload dX6_takeEdges_68 0 rfl ?_
        obtain ⟨q14, hq14, hf⟩ := bnd hf
        refine kV_I (ad := ad) (As := [.ref (ad 1), .int x8, .int x11]) (st := []) dX6_takeEdges_70 calX6_meetsNoEdge wm582 wm584 wm4 rfl rfl (rc_10 hr) (ci := 6) (by decide) rfl rfl (Nat.le_of_ble_eq_true rfl) ⟨⟨by decide, by decide⟩, by decide, by decide⟩ (cmX6_meetsNoEdge hr hq14) (fun h hr => ?_)
        refine rw_if_eq (tgt := 108) dX6_takeEdges_73 (by decide) (fun c15 => ?_) (fun c15 => ?_)
        · rw [if_pos c15] at hf
          refine rw_sub [2, 3, 4, 5] rfl ?_
          exact t_jX6_takeEdges_108 (ad := ad) (G := G) (lX6_takeEdges_20 n) ih v3 q14.2 _ hr hf
        · rw [if_neg c15] at hf
          refine rw_aload_n dX6_takeEdges_76 2 rfl rfl ?_
          refine rw_iload dX6_takeEdges_77 1 rfl ?_
          refine rw_iload dX6_takeEdges_79 0 rfl ?_
          refine rw_aload_n dX6_takeEdges_81 4 rfl rfl ?_
          refine rw_aload_n dX6_takeEdges_82 3 rfl rfl ?_
          refine sg_1_0 hr dX6_takeEdges_83 fl168 ?_
          refine rw_iload dX6_takeEdges_86 1 rfl ?_
          obtain ⟨hi16, hf⟩ := grd hf
          refine sa_2 hr dX6_takeEdges_88 (inB_in hi16) ?_
          obtain ⟨hp17, hf⟩ := grd hf
          refine sg_Bo_0 hr dX6_takeEdges_89 fl137 hp17 ?_
          refine rw_aload_n dX6_takeEdges_92 3 rfl rfl ?_
          refine sg_1_0 hr dX6_takeEdges_93 fl168 ?_
          refine rw_iload dX6_takeEdges_96 0 rfl ?_
          obtain ⟨hi18, hf⟩ := grd hf
          refine sa_2 hr dX6_takeEdges_98 (inB_in hi18) ?_
          obtain ⟨hp19, hf⟩ := grd hf
          refine sg_Bo_0 hr dX6_takeEdges_99 fl137 hp19 ?_
          obtain ⟨q20, hq20, hf⟩ := bnd hf
          refine kV_I (ad := ad) (As := [.ref (ad (80 + 4 * x8.toNatClampNeg + 1)), .ref (ad (80 + 4 * x11.toNatClampNeg + 1))]) (st := [.int x11, .int x8, .ref (ad 10)]) dX6_takeEdges_102 calX3_breakWay wm593 wm594 wm595 rfl rfl (rc_3 hr) (ci := 4) (by decide) rfl rfl (Nat.le_of_ble_eq_true rfl) ⟨⟨by decide, by decide⟩, by decide, by decide⟩ (cmX3_breakWay hr hq20) (fun h hr => ?_)
          obtain ⟨q21, hq21, hf⟩ := bnd hf
          refine kV_V (ad := ad) (As := [.int x8, .int x11, .int q20.1]) (st := []) dX6_takeEdges_105 calX6_takeEdge wm598 wm600 wm5 rfl rfl (rc_10 hr) (ci := 6) (by decide) rfl rfl (Nat.le_of_ble_eq_true rfl) ⟨⟨by decide, by decide⟩, by decide, by decide⟩ (cmX6_takeEdge hr hq21) (fun h hr => ?_)
          refine rw_sub [2, 3, 4, 5] rfl ?_
          exact t_jX6_takeEdges_108 (ad := ad) (G := G) (lX6_takeEdges_20 n) ih v3 q21.2 _ hr hf
def fX6_takeEdges  (σ : rS) : Option (Unit × rS) := vS (uI σ 10 4 0) fun σ1 => vS (uI σ1 10 5 0) fun σ2 => (fJ7_fill_53178_a16 ((-1)) σ2).bind fun q3 => lX6_takeEdges_20 1000 0 q3.2
set_option maxHeartbeats 4000000 in
theorem cmX6_takeEdges {G : rG} {ad : Nat → Nat}  {σ : rS} {h : rH} {o : (Unit × rS)} (hr : Rep G ad σ h) (hf : fX6_takeEdges  σ = some o) : rMT G mX6_takeEdges (rm 4 0 0) [.ref (ad 10), .ref (ad 1), .ref (ad 3)] h (qV G ad o) xN := by
  unfold fX6_takeEdges at hf
  refine rw_met (by decide +kernel) rfl (Nat.le_of_ble_eq_true rfl) ?_
  show RW G _ _ _ _ 0 0 0 [(0, .ref (ad 10)), (1, .ref (ad 1)), (2, .ref (ad 3))] [] h
  refine rw_aload_n dX6_takeEdges_0 0 rfl rfl ?_
  refine rw_iconst (v := 0) dX6_takeEdges_1 (by decide) ?_
  refine sp_10_4 hr dX6_takeEdges_2 fl241 (fun h hr => ?_)
  refine nmS hf hr (fun σ1 hr hf => ?_)
  refine rw_aload_n dX6_takeEdges_5 0 rfl rfl ?_
  refine rw_iconst (v := 0) dX6_takeEdges_6 (by decide) ?_
  refine sp_10_5 hr dX6_takeEdges_7 fl243 (fun h hr => ?_)
  refine nmS hf hr (fun σ2 hr hf => ?_)
  refine rw_aload_n dX6_takeEdges_10 0 rfl rfl ?_
  refine sg_10_8 hr dX6_takeEdges_11 fl249 ?_
  refine rw_iconst (v := (-1)) dX6_takeEdges_14 (by decide) ?_
  obtain ⟨q3, hq3, hf⟩ := bnd hf
  refine kS_V (ad := ad) (As := [.ref (ad 16), .int ((-1))]) (st := []) dX6_takeEdges_15 calJ7_fill_53178 wm563 wm564 rfl rfl (Nat.le_of_ble_eq_true rfl) ⟨⟨by decide, by decide⟩, by decide, by decide⟩ (cmJ7_fill_53178_a16 hr hq3) (fun h hr => ?_)
  refine rw_iconst (v := 0) dX6_takeEdges_18 (by decide) ?_
  refine rw_istore_n (lv2 := [(3, .int 0), (0, .ref (ad 10)), (1, .ref (ad 1)), (2, .ref (ad 3))]) dX6_takeEdges_19 rfl (by decide) rfl ?_
  refine rw_sub [1, 2, 3, 0] rfl ?_
  exact t_lX6_takeEdges_20 (ad := ad) (G := G)  1000 0 q3.2 _ hr hf
