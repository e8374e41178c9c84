def fX12_thrown  (σ : rS) : Option (Int32 × rS) := some ((σ.1 43 0), σ)
set_option maxHeartbeats 4000000 in
theorem cmX12_thrown {G : rG} {ad : Nat → Nat}  {σ : rS} {h : rH} {o : (Int32 × rS)} (hr : Rep G ad σ h) (hf : fX12_thrown  σ = some o) : rMT G mX12_thrown (rm 0 0 0) [.ref (ad 43)] h (qI G ad o) xN := by
  unfold fX12_thrown at hf
  refine rw_met (by decide +kernel) rfl (Nat.le_of_ble_eq_true rfl) ?_
  show RW G _ _ _ _ 0 0 0 [(0, .ref (ad 43))] [] h
  refine rw_aload_n dX12_thrown_0 0 rfl rfl ?_
  refine sg_43_0 hr dX12_thrown_1 fl1462 ?_
  replace hf := Option.some.inj hf
  subst hf
  exact rw_ireturn dX12_thrown_4 rfl ⟨rfl, hr⟩ (by decide) (by decide)
def jX12_in_15  (s0 : Int32) (σ : rS) : Option (Int32 × rS) := if s0 = 0 ∨ s0 = 1 then some (s0, σ) else none
set_option maxHeartbeats 4000000 in
theorem t_jX12_in_15 {G : rG} {ad : Nat → Nat} {o : (Int32 × rS)}   (s0 : Int32) (σ : rS) (h : rH) (hr : Rep G ad σ h) (hf : jX12_in_15  s0 σ = some o) : RW G mX12_in (rm 0 0 0) (qI G ad o) xN 0 0 15 [] [.int s0] h := by
  unfold jX12_in_15 at hf
  obtain ⟨hz3, hf⟩ := grd hf
  replace hf := Option.some.inj hf
  subst hf
  exact rw_zreturn dX12_in_15 rfl (nar_z hz3) ⟨rfl, hr⟩ (by decide) (by decide)
def jX12_in_14   (σ : rS) : Option (Int32 × rS) := jX12_in_15 0 σ
set_option maxHeartbeats 4000000 in
theorem t_jX12_in_14 {G : rG} {ad : Nat → Nat} {o : (Int32 × rS)}    (σ : rS) (h : rH) (hr : Rep G ad σ h) (hf : jX12_in_14   σ = some o) : RW G mX12_in (rm 0 0 0) (qI G ad o) xN 0 0 14 [] [] h := by
  unfold jX12_in_14 at hf
  refine rw_iconst (v := 0) dX12_in_14 (by decide) ?_
  exact t_jX12_in_15 (ad := ad) (G := G)  0 σ _ hr hf
def fX12_in (a0 : Int32) (a1 : Int32) (a2 : Int32) (σ : rS) : Option (Int32 × rS) := if a0 < a1 then jX12_in_14 σ else if a2 < a0 then jX12_in_14 σ else jX12_in_15 1 σ
set_option maxHeartbeats 4000000 in
theorem cmX12_in {G : rG} {ad : Nat → Nat} {a0 : Int32} {a1 : Int32} {a2 : Int32} {σ : rS} {h : rH} {o : (Int32 × rS)} (hr : Rep G ad σ h) (hf : fX12_in a0 a1 a2 σ = some o) : rMT G mX12_in (rm 0 0 0) [.int a0, .int a1, .int a2] h (qI G ad o) xN := by
  unfold fX12_in at hf
  refine rw_met (by decide +kernel) rfl (Nat.le_of_ble_eq_true rfl) ?_
  show RW G _ _ _ _ 0 0 0 [(0, .int a0), (1, .int a1), (2, .int a2)] [] h
  refine rw_iload_n dX12_in_0 0 rfl rfl ?_
  refine rw_iload_n dX12_in_1 1 rfl rfl ?_
  refine rw_icmp_lt (tgt := 14) dX12_in_2 (by decide) (fun c1 => ?_) (fun c1 => ?_)
  · rw [if_pos c1] at hf
    refine rw_sub [] rfl ?_
    exact t_jX12_in_14 (ad := ad) (G := G)  σ _ hr hf
  · rw [if_neg c1] at hf
    refine rw_iload_n dX12_in_5 0 rfl rfl ?_
    refine rw_iload_n dX12_in_6 2 rfl rfl ?_
    refine rw_icmp_gt (tgt := 14) dX12_in_7 (by decide) (fun c2 => ?_) (fun c2 => ?_)
    · rw [if_pos c2] at hf
      refine rw_sub [] rfl ?_
      exact t_jX12_in_14 (ad := ad) (G := G)  σ _ hr hf
    · rw [if_neg c2] at hf
      refine rw_iconst (v := 1) dX12_in_10 (by decide) ?_
      refine rw_goto (tgt := 15) dX12_in_11 (by decide) ?_
      refine rw_sub [] rfl ?_
      exact t_jX12_in_15 (ad := ad) (G := G)  1 σ _ hr hf
def jX12_isPlace_31  (s0 : Int32) (σ : rS) : Option (Int32 × rS) := if s0 = 0 ∨ s0 = 1 then some (s0, σ) else none
set_option maxHeartbeats 4000000 in
theorem t_jX12_isPlace_31 {G : rG} {ad : Nat → Nat} {o : (Int32 × rS)}   (s0 : Int32) (σ : rS) (h : rH) (hr : Rep G ad σ h) (hf : jX12_isPlace_31  s0 σ = some o) : RW G mX12_isPlace (rm 1 0 0) (qI G ad o) xN 0 0 31 [] [.int s0] h := by
  unfold jX12_isPlace_31 at hf
  obtain ⟨hz5, hf⟩ := grd hf
  replace hf := Option.some.inj hf
  subst hf
  exact rw_zreturn dX12_isPlace_31 rfl (nar_z hz5) ⟨rfl, hr⟩ (by decide) (by decide)
def jX12_isPlace_30   (σ : rS) : Option (Int32 × rS) := jX12_isPlace_31 0 σ
set_option maxHeartbeats 4000000 in
theorem t_jX12_isPlace_30 {G : rG} {ad : Nat → Nat} {o : (Int32 × rS)}    (σ : rS) (h : rH) (hr : Rep G ad σ h) (hf : jX12_isPlace_30   σ = some o) : RW G mX12_isPlace (rm 1 0 0) (qI G ad o) xN 0 0 30 [] [] h := by
  unfold jX12_isPlace_30 at hf
  refine rw_iconst (v := 0) dX12_isPlace_30 (by decide) ?_
  exact t_jX12_isPlace_31 (ad := ad) (G := G)  0 σ _ hr hf
def fX12_isPlace (a0 : Int32) (a1 : Int32) (σ : rS) : Option (Int32 × rS) := (fX12_in a0 ((-1000)) 1000 σ).bind fun q1 => if q1.1 = 0 then jX12_isPlace_30 q1.2 else (fX12_in a1 ((-1000)) 1000 q1.2).bind fun q3 => if q3.1 = 0 then jX12_isPlace_30 q3.2 else jX12_isPlace_31 1 q3.2
set_option maxHeartbeats 4000000 in
theorem cmX12_isPlace {G : rG} {ad : Nat → Nat} {a0 : Int32} {a1 : Int32} {σ : rS} {h : rH} {o : (Int32 × rS)} (hr : Rep G ad σ h) (hf : fX12_isPlace a0 a1 σ = some o) : rMT G mX12_isPlace (rm 1 0 0) [.int a0, .int a1] h (qI G ad o) xN := by
  unfold fX12_isPlace at hf
  refine rw_met (by decide +kernel) rfl (Nat.le_of_ble_eq_true rfl) ?_
  show RW G _ _ _ _ 0 0 0 [(0, .int a0), (1, .int a1)] [] h
  refine rw_iload_n dX12_isPlace_0 0 rfl rfl ?_
  refine rw_sipush (v := (-1000)) dX12_isPlace_1 (by decide) ?_
  refine rw_sipush (v := 1000) dX12_isPlace_4 (by decide) ?_
  obtain ⟨q1, hq1, hf⟩ := bnd hf
  refine kS_I (ad := ad) (As := [.int a0, .int ((-1000)), .int 1000]) (st := []) dX12_isPlace_7 calX12_in wm1612 wm1613 rfl rfl (Nat.le_of_ble_eq_true rfl) ⟨⟨by decide, by decide⟩, by decide, by decide⟩ (cmX12_in hr hq1) (fun h hr => ?_)
  refine rw_if_eq (tgt := 30) dX12_isPlace_10 (by decide) (fun c2 => ?_) (fun c2 => ?_)
  · rw [if_pos c2] at hf
    refine rw_sub [] rfl ?_
    exact t_jX12_isPlace_30 (ad := ad) (G := G)  q1.2 _ hr hf
  · rw [if_neg c2] at hf
    refine rw_iload_n dX12_isPlace_13 1 rfl rfl ?_
    refine rw_sipush (v := (-1000)) dX12_isPlace_14 (by decide) ?_
    refine rw_sipush (v := 1000) dX12_isPlace_17 (by decide) ?_
    obtain ⟨q3, hq3, hf⟩ := bnd hf
    refine kS_I (ad := ad) (As := [.int a1, .int ((-1000)), .int 1000]) (st := []) dX12_isPlace_20 calX12_in wm1612 wm1613 rfl rfl (Nat.le_of_ble_eq_true rfl) ⟨⟨by decide, by decide⟩, by decide, by decide⟩ (cmX12_in hr hq3) (fun h hr => ?_)
    refine rw_if_eq (tgt := 30) dX12_isPlace_23 (by decide) (fun c4 => ?_) (fun c4 => ?_)
    · rw [if_pos c4] at hf
      refine rw_sub [] rfl ?_
      exact t_jX12_isPlace_30 (ad := ad) (G := G)  q3.2 _ hr hf
    · rw [if_neg c4] at hf
      refine rw_iconst (v := 1) dX12_isPlace_26 (by decide) ?_
      refine rw_goto (tgt := 31) dX12_isPlace_27 (by decide) ?_
      refine rw_sub [] rfl ?_
      exact t_jX12_isPlace_31 (ad := ad) (G := G)  1 q3.2 _ hr hf
def fX12_isBoring (a0 : Int32) (σ : rS) : Option (Int32 × rS) := (fX12_in a0 0 ((σ.1 43 2) - 1) σ).bind fun q1 => if q1.1 = 0 ∨ q1.1 = 1 then some (q1.1, q1.2) else none
set_option maxHeartbeats 4000000 in
theorem cmX12_isBoring {G : rG} {ad : Nat → Nat} {a0 : Int32} {σ : rS} {h : rH} {o : (Int32 × rS)} (hr : Rep G ad σ h) (hf : fX12_isBoring a0 σ = some o) : rMT G mX12_isBoring (rm 1 0 0) [.ref (ad 43), .int a0] h (qI G ad o) xN := by
  unfold fX12_isBoring at hf
  refine rw_met (by decide +kernel) rfl (Nat.le_of_ble_eq_true rfl) ?_
  show RW G _ _ _ _ 0 0 0 [(0, .ref (ad 43)), (1, .int a0)] [] h
  refine rw_iload_n dX12_isBoring_0 1 rfl rfl ?_
  refine rw_iconst (v := 0) dX12_isBoring_1 (by decide) ?_
  refine rw_aload_n dX12_isBoring_2 0 rfl rfl ?_
  refine sg_43_2 hr dX12_isBoring_3 fl1464 ?_
  refine rw_iconst (v := 1) dX12_isBoring_6 (by decide) ?_
  refine rw_isub dX12_isBoring_7 ?_
  obtain ⟨q1, hq1, hf⟩ := bnd hf
  refine kS_I (ad := ad) (As := [.int a0, .int 0, .int ((σ.1 43 2) - 1)]) (st := []) dX12_isBoring_8 calX12_in wm1612 wm1613 rfl rfl (Nat.le_of_ble_eq_true rfl) ⟨⟨by decide, by decide⟩, by decide, by decide⟩ (cmX12_in hr hq1) (fun h hr => ?_)
  obtain ⟨hz2, hf⟩ := grd hf
  replace hf := Option.some.inj hf
  subst hf
  exact rw_zreturn dX12_isBoring_11 rfl (nar_z hz2) ⟨rfl, hr⟩ (by decide) (by decide)
def jX12_isTaken_45 (k5 : Int32 → Int32 → Int32 → Int32 → rS → Option (Int32 × rS)) (v1 : Int32) (v2 : Int32) (v4 : Int32) (s0 : Int32) (σ : rS) : Option (Int32 × rS) := vI (v4 + 1) fun x8 => k5 v1 v2 s0 x8 σ
set_option maxHeartbeats 4000000 in
theorem t_jX12_isTaken_45 {G : rG} {ad : Nat → Nat} {o : (Int32 × rS)} (k5 : Int32 → Int32 → Int32 → Int32 → rS → Option (Int32 × rS)) (hk5 : ∀ (v1 : Int32) (v2 : Int32) (v3 : Int32) (v4 : Int32) (σ : rS) (h : rH), Rep G ad σ h → k5 v1 v2 v3 v4 σ = some o → RW G mX12_isTaken (rm 0 0 0) (qI G ad o) xN 0 0 5 [(0, .ref (ad 43)), (1, .int v1), (2, .int v2), (3, .int v3), (4, .int v4)] [] h) (v1 : Int32) (v2 : Int32) (v4 : Int32) (s0 : Int32) (σ : rS) (h : rH) (hr : Rep G ad σ h) (hf : jX12_isTaken_45 k5 v1 v2 v4 s0 σ = some o) : RW G mX12_isTaken (rm 0 0 0) (qI G ad o) xN 0 0 45 [(0, .ref (ad 43)), (1, .int v1), (2, .int v2), (4, .int v4)] [.int s0] h := by
  unfold jX12_isTaken_45 at hf
  refine rw_istore_n (lv2 := [(3, .int s0), (0, .ref (ad 43)), (1, .int v1), (2, .int v2), (4, .int v4)]) dX12_isTaken_45 rfl (by decide) rfl ?_
  refine rw_iinc (v := v4 + 1) (lv2 := [(4, .int (v4 + 1)), (3, .int s0), (0, .ref (ad 43)), (1, .int v1), (2, .int v2)]) dX12_isTaken_46 4 rfl rfl (by decide) rfl ?_
  refine nmL hf (fun x8 hf => ?_)
  refine rw_goto (tgt := 5) dX12_isTaken_49 (by decide) ?_
  refine rw_sub [2, 3, 4, 1, 0] rfl ?_
  exact hk5 v1 v2 s0 x8 σ _ hr hf
def jX12_isTaken_44 (k5 : Int32 → Int32 → Int32 → Int32 → rS → Option (Int32 × rS)) (v1 : Int32) (v2 : Int32) (v4 : Int32) (σ : rS) : Option (Int32 × rS) := jX12_isTaken_45 k5 v1 v2 v4 0 σ
set_option maxHeartbeats 4000000 in
theorem t_jX12_isTaken_44 {G : rG} {ad : Nat → Nat} {o : (Int32 × rS)} (k5 : Int32 → Int32 → Int32 → Int32 → rS → Option (Int32 × rS)) (hk5 : ∀ (v1 : Int32) (v2 : Int32) (v3 : Int32) (v4 : Int32) (σ : rS) (h : rH), Rep G ad σ h → k5 v1 v2 v3 v4 σ = some o → RW G mX12_isTaken (rm 0 0 0) (qI G ad o) xN 0 0 5 [(0, .ref (ad 43)), (1, .int v1), (2, .int v2), (3, .int v3), (4, .int v4)] [] h) (v1 : Int32) (v2 : Int32) (v4 : Int32) (σ : rS) (h : rH) (hr : Rep G ad σ h) (hf : jX12_isTaken_44 k5 v1 v2 v4 σ = some o) : RW G mX12_isTaken (rm 0 0 0) (qI G ad o) xN 0 0 44 [(0, .ref (ad 43)), (1, .int v1), (2, .int v2), (4, .int v4)] [] h := by
  unfold jX12_isTaken_44 at hf
  refine rw_iconst (v := 0) dX12_isTaken_44 (by decide) ?_
  exact t_jX12_isTaken_45 (ad := ad) (G := G) k5 hk5 v1 v2 v4 0 σ _ hr hf
def jX12_isTaken_40 (k5 : Int32 → Int32 → Int32 → Int32 → rS → Option (Int32 × rS)) (v1 : Int32) (v2 : Int32) (v4 : Int32) (σ : rS) : Option (Int32 × rS) := jX12_isTaken_45 k5 v1 v2 v4 1 σ
set_option maxHeartbeats 4000000 in
theorem t_jX12_isTaken_40 {G : rG} {ad : Nat → Nat} {o : (Int32 × rS)} (k5 : Int32 → Int32 → Int32 → Int32 → rS → Option (Int32 × rS)) (hk5 : ∀ (v1 : Int32) (v2 : Int32) (v3 : Int32) (v4 : Int32) (σ : rS) (h : rH), Rep G ad σ h → k5 v1 v2 v3 v4 σ = some o → RW G mX12_isTaken (rm 0 0 0) (qI G ad o) xN 0 0 5 [(0, .ref (ad 43)), (1, .int v1), (2, .int v2), (3, .int v3), (4, .int v4)] [] h) (v1 : Int32) (v2 : Int32) (v4 : Int32) (σ : rS) (h : rH) (hr : Rep G ad σ h) (hf : jX12_isTaken_40 k5 v1 v2 v4 σ = some o) : RW G mX12_isTaken (rm 0 0 0) (qI G ad o) xN 0 0 40 [(0, .ref (ad 43)), (1, .int v1), (2, .int v2), (4, .int v4)] [] h := by
  unfold jX12_isTaken_40 at hf
  refine rw_iconst (v := 1) dX12_isTaken_40 (by decide) ?_
  refine rw_goto (tgt := 45) dX12_isTaken_41 (by decide) ?_
  exact t_jX12_isTaken_45 (ad := ad) (G := G) k5 hk5 v1 v2 v4 1 σ _ hr hf
def lX12_isTaken_5  : Nat → Int32 → Int32 → Int32 → Int32 → rS → Option (Int32 × rS)
  | 0, _, _, _, _, _ => none
  | n + 1, v1, v2, v3, v4, σ => if (σ.1 43 2) ≤ v4 then if v3 = 0 ∨ v3 = 1 then some (v3, σ) else none else if v3 = 0 then if inB v4 16 then (if (σ.2.2.1 44 v4.toNatClampNeg) = v1 then if inB v4 16 then (if (σ.2.2.1 45 v4.toNatClampNeg) = v2 then jX12_isTaken_40 (lX12_isTaken_5 n) v1 v2 v4 σ else jX12_isTaken_44 (lX12_isTaken_5 n) v1 v2 v4 σ) else none else jX12_isTaken_44 (lX12_isTaken_5 n) v1 v2 v4 σ) else none else jX12_isTaken_40 (lX12_isTaken_5 n) v1 v2 v4 σ
set_option maxHeartbeats 4000000 in
theorem t_lX12_isTaken_5 {G : rG} {ad : Nat → Nat} {o : (Int32 × rS)}   : ∀ (n : Nat) (v1 : Int32) (v2 : Int32) (v3 : Int32) (v4 : Int32) (σ : rS) (h : rH), Rep G ad σ h → lX12_isTaken_5  n v1 v2 v3 v4 σ = some o → RW G mX12_isTaken (rm 0 0 0) (qI G ad o) xN 0 0 5 [(0, .ref (ad 43)), (1, .int v1), (2, .int v2), (3, .int v3), (4, .int v4)] [] h := by
  intro n
  induction n with
  | zero =>
    intro v1 v2 v3 v4 σ h hr hf
    rw [lX12_isTaken_5] at hf
    cases hf
  | succ n ih =>
    intro v1 v2 v3 v4 σ h hr hf
    rw [lX12_isTaken_5] at hf
    refine rw_iload dX12_isTaken_5 4 rfl ?_
    refine rw_aload_n dX12_isTaken_7 0 rfl rfl ?_
    refine sg_43_2 hr dX12_isTaken_8 fl1464 ?_
    refine rw_icmp_ge (tgt := 52) dX12_isTaken_11 (by decide) (fun c1 => ?_) (fun c1 => ?_)
    · rw [if_pos c1] at hf
      refine rw_iload_n dX12_isTaken_52 3 rfl rfl ?_
      obtain ⟨hz2, hf⟩ := grd hf
      replace hf := Option.some.inj hf
      subst hf
      exact rw_zreturn dX12_isTaken_53 rfl (nar_z hz2) ⟨rfl, hr⟩ (by decide) (by decide)
    · rw [if_neg c1] at hf
      refine rw_iload_n dX12_isTaken_14 3 rfl rfl ?_
      refine rw_if_ne (tgt := 40) dX12_isTaken_15 (by decide) (fun c3 => ?_) (fun c3 => ?_)
      · rw [if_neg c3] at hf
        refine rw_sub [0, 1, 2, 4] rfl ?_
        exact t_jX12_isTaken_40 (ad := ad) (G := G) (lX12_isTaken_5 n) ih v1 v2 v4 σ _ hr hf
      · rw [if_pos c3] at hf
        refine rw_aload_n dX12_isTaken_18 0 rfl rfl ?_
        refine sg_43_3 hr dX12_isTaken_19 fl1465 ?_
        refine rw_iload dX12_isTaken_22 4 rfl ?_
        obtain ⟨hi4, hf⟩ := grd hf
        refine sl_44 hr dX12_isTaken_24 (inB_in hi4) ?_
        refine rw_iload_n dX12_isTaken_25 1 rfl rfl ?_
        refine rw_icmp_ne (tgt := 44) dX12_isTaken_26 (by decide) (fun c5 => ?_) (fun c5 => ?_)
        · rw [if_neg c5] at hf
          refine rw_sub [0, 1, 2, 4] rfl ?_
          exact t_jX12_isTaken_44 (ad := ad) (G := G) (lX12_isTaken_5 n) ih v1 v2 v4 σ _ hr hf
        · rw [if_pos c5] at hf
          refine rw_aload_n dX12_isTaken_29 0 rfl rfl ?_
          refine sg_43_4 hr dX12_isTaken_30 fl1466 ?_
          refine rw_iload dX12_isTaken_33 4 rfl ?_
          obtain ⟨hi6, hf⟩ := grd hf
          refine sl_45 hr dX12_isTaken_35 (inB_in hi6) ?_
          refine rw_iload_n dX12_isTaken_36 2 rfl rfl ?_
          refine rw_icmp_ne (tgt := 44) dX12_isTaken_37 (by decide) (fun c7 => ?_) (fun c7 => ?_)
          · rw [if_neg c7] at hf
            refine rw_sub [0, 1, 2, 4] rfl ?_
            exact t_jX12_isTaken_44 (ad := ad) (G := G) (lX12_isTaken_5 n) ih v1 v2 v4 σ _ hr hf
          · rw [if_pos c7] at hf
            refine rw_sub [0, 1, 2, 4] rfl ?_
            exact t_jX12_isTaken_40 (ad := ad) (G := G) (lX12_isTaken_5 n) ih v1 v2 v4 σ _ hr hf
def fX12_isTaken (a0 : Int32) (a1 : Int32) (σ : rS) : Option (Int32 × rS) := lX12_isTaken_5 1000 a0 a1 0 0 σ
set_option maxHeartbeats 4000000 in
theorem cmX12_isTaken {G : rG} {ad : Nat → Nat} {a0 : Int32} {a1 : Int32} {σ : rS} {h : rH} {o : (Int32 × rS)} (hr : Rep G ad σ h) (hf : fX12_isTaken a0 a1 σ = some o) : rMT G mX12_isTaken (rm 0 0 0) [.ref (ad 43), .int a0, .int a1] h (qI G ad o) xN := by
  unfold fX12_isTaken at hf
  refine rw_met (by decide +kernel) rfl (Nat.le_of_ble_eq_true rfl) ?_
  show RW G _ _ _ _ 0 0 0 [(0, .ref (ad 43)), (1, .int a0), (2, .int a1)] [] h
  refine rw_iconst (v := 0) dX12_isTaken_0 (by decide) ?_
  refine rw_istore_n (lv2 := [(3, .int 0), (0, .ref (ad 43)), (1, .int a0), (2, .int a1)]) dX12_isTaken_1 rfl (by decide) rfl ?_
  refine rw_iconst (v := 0) dX12_isTaken_2 (by decide) ?_
  refine rw_istore (lv2 := [(4, .int 0), (3, .int 0), (0, .ref (ad 43)), (1, .int a0), (2, .int a1)]) dX12_isTaken_3 (by decide) rfl ?_
  refine rw_sub [2, 3, 4, 1, 0] rfl ?_
  exact t_lX12_isTaken_5 (ad := ad) (G := G)  1000 a0 a1 0 0 σ _ hr hf
def jX12_boring_59  (v1 : Int32) (v2 : Int32) (v3 : Int32) (s0 : Int32) (σ : rS) : Option (Int32 × rS) := vS (uI σ 43 0 s0) fun σ9 => if (σ9.1 43 0) ≤ 0 then if inB (σ9.1 43 2) 16 then vS (uA σ9 44 (σ9.1 43 2).toNatClampNeg v1) fun σ12 => if inB (σ12.1 43 2) 16 then vS (uA σ12 45 (σ12.1 43 2).toNatClampNeg v2) fun σ14 => if inB (σ14.1 43 2) 16 then vS (uA σ14 46 (σ14.1 43 2).toNatClampNeg v3) fun σ16 => if inB (σ16.1 43 2) 16 then vS (uA σ16 47 (σ16.1 43 2).toNatClampNeg 0) fun σ18 => vS (uI σ18 43 2 ((σ18.1 43 2) + 1)) fun σ19 => vS (uI σ19 43 1 0) fun σ20 => some (((σ20.1 43 2) - 1), σ20) else none else none else none else none else some (0, σ9)
set_option maxHeartbeats 4000000 in
theorem t_jX12_boring_59 {G : rG} {ad : Nat → Nat} {o : (Int32 × rS)}   (v1 : Int32) (v2 : Int32) (v3 : Int32) (s0 : Int32) (σ : rS) (h : rH) (hr : Rep G ad σ h) (hf : jX12_boring_59  v1 v2 v3 s0 σ = some o) : RW G mX12_boring (rm 2 0 0) (qI G ad o) xN 0 0 59 [(0, .ref (ad 43)), (1, .int v1), (2, .int v2), (3, .int v3)] [.int s0, .ref (ad 43)] h := by
  unfold jX12_boring_59 at hf
  refine sp_43_0 hr dX12_boring_59 fl1462 (fun h hr => ?_)
  refine nmS hf hr (fun σ9 hr hf => ?_)
  refine rw_aload_n dX12_boring_62 0 rfl rfl ?_
  refine sg_43_0 hr dX12_boring_63 fl1462 ?_
  refine rw_if_le (tgt := 71) dX12_boring_66 (by decide) (fun c10 => ?_) (fun c10 => ?_)
  · rw [if_pos c10] at hf
    refine rw_aload_n dX12_boring_71 0 rfl rfl ?_
    refine sg_43_3 hr dX12_boring_72 fl1465 ?_
    refine rw_aload_n dX12_boring_75 0 rfl rfl ?_
    refine sg_43_2 hr dX12_boring_76 fl1464 ?_
    refine rw_iload_n dX12_boring_79 1 rfl rfl ?_
    obtain ⟨hi11, hf⟩ := grd hf
    refine ss_44 hr dX12_boring_80 (inB_in hi11) (fun h hr => ?_)
    refine nmS hf hr (fun σ12 hr hf => ?_)
    refine rw_aload_n dX12_boring_81 0 rfl rfl ?_
    refine sg_43_4 hr dX12_boring_82 fl1466 ?_
    refine rw_aload_n dX12_boring_85 0 rfl rfl ?_
    refine sg_43_2 hr dX12_boring_86 fl1464 ?_
    refine rw_iload_n dX12_boring_89 2 rfl rfl ?_
    obtain ⟨hi13, hf⟩ := grd hf
    refine ss_45 hr dX12_boring_90 (inB_in hi13) (fun h hr => ?_)
    refine nmS hf hr (fun σ14 hr hf => ?_)
    refine rw_aload_n dX12_boring_91 0 rfl rfl ?_
    refine sg_43_5 hr dX12_boring_92 fl1467 ?_
    refine rw_aload_n dX12_boring_95 0 rfl rfl ?_
    refine sg_43_2 hr dX12_boring_96 fl1464 ?_
    refine rw_iload_n dX12_boring_99 3 rfl rfl ?_
    obtain ⟨hi15, hf⟩ := grd hf
    refine ss_46 hr dX12_boring_100 (inB_in hi15) (fun h hr => ?_)
    refine nmS hf hr (fun σ16 hr hf => ?_)
    refine rw_aload_n dX12_boring_101 0 rfl rfl ?_
    refine sg_43_6 hr dX12_boring_102 fl1468 ?_
    refine rw_aload_n dX12_boring_105 0 rfl rfl ?_
    refine sg_43_2 hr dX12_boring_106 fl1464 ?_
    refine rw_iconst (v := 0) dX12_boring_109 (by decide) ?_
    obtain ⟨hi17, hf⟩ := grd hf
    refine ss_47 hr dX12_boring_110 (inB_in hi17) (fun h hr => ?_)
    refine nmS hf hr (fun σ18 hr hf => ?_)
    refine rw_aload_n dX12_boring_111 0 rfl rfl ?_
    refine rw_dup dX12_boring_112 rfl ?_
    refine sg_43_2 hr dX12_boring_113 fl1464 ?_
    refine rw_iconst (v := 1) dX12_boring_116 (by decide) ?_
    refine rw_iadd dX12_boring_117 ?_
    refine sp_43_2 hr dX12_boring_118 fl1464 (fun h hr => ?_)
    refine nmS hf hr (fun σ19 hr hf => ?_)
    refine rw_aload_n dX12_boring_121 0 rfl rfl ?_
    refine rw_iconst (v := 0) dX12_boring_122 (by decide) ?_
    refine sp_43_1 hr dX12_boring_123 fl1463 (by decide) (by decide) (fun h hr => ?_)
    refine nmS hf hr (fun σ20 hr hf => ?_)
    refine rw_aload_n dX12_boring_126 0 rfl rfl ?_
    refine sg_43_2 hr dX12_boring_127 fl1464 ?_
    refine rw_iconst (v := 1) dX12_boring_130 (by decide) ?_
    refine rw_isub dX12_boring_131 ?_
    replace hf := Option.some.inj hf
    subst hf
    exact rw_ireturn dX12_boring_132 rfl ⟨rfl, hr⟩ (by decide) (by decide)
  · rw [if_neg c10] at hf
    refine rw_iconst (v := 0) dX12_boring_69 (by decide) ?_
    replace hf := Option.some.inj hf
    subst hf
    exact rw_ireturn dX12_boring_70 rfl ⟨rfl, hr⟩ (by decide) (by decide)
def jX12_boring_33  (v1 : Int32) (v2 : Int32) (v3 : Int32) (s0 : Int32) (σ : rS) : Option (Int32 × rS) := if s0 = 0 then jX12_boring_59 v1 v2 v3 1 σ else if (σ.1 43 2) = 16 then jX12_boring_59 v1 v2 v3 2 σ else jX12_boring_59 v1 v2 v3 0 σ
set_option maxHeartbeats 4000000 in
theorem t_jX12_boring_33 {G : rG} {ad : Nat → Nat} {o : (Int32 × rS)}   (v1 : Int32) (v2 : Int32) (v3 : Int32) (s0 : Int32) (σ : rS) (h : rH) (hr : Rep G ad σ h) (hf : jX12_boring_33  v1 v2 v3 s0 σ = some o) : RW G mX12_boring (rm 2 0 0) (qI G ad o) xN 0 0 33 [(0, .ref (ad 43)), (1, .int v1), (2, .int v2), (3, .int v3)] [.int s0] h := by
  unfold jX12_boring_33 at hf
  refine rw_istore (lv2 := [(4, .int s0), (0, .ref (ad 43)), (1, .int v1), (2, .int v2), (3, .int v3)]) dX12_boring_33 (by decide) rfl ?_
  refine rw_aload_n dX12_boring_35 1 rfl rfl ?_
  refine rw_iload dX12_boring_36 0 rfl ?_
  refine rw_if_ne (tgt := 45) dX12_boring_38 (by decide) (fun c7 => ?_) (fun c7 => ?_)
  · rw [if_neg c7] at hf
    refine rw_aload_n dX12_boring_45 1 rfl rfl ?_
    refine sg_43_2 hr dX12_boring_46 fl1464 ?_
    refine rw_bipush (v := 16) dX12_boring_49 (by decide) ?_
    refine rw_icmp_ne (tgt := 58) dX12_boring_51 (by decide) (fun c8 => ?_) (fun c8 => ?_)
    · rw [if_neg c8] at hf
      refine rw_iconst (v := 0) dX12_boring_58 (by decide) ?_
      refine rw_sub [1, 2, 3, 4] rfl ?_
      exact t_jX12_boring_59 (ad := ad) (G := G)  v1 v2 v3 0 σ _ hr hf
    · rw [if_pos c8] at hf
      refine rw_iconst (v := 2) dX12_boring_54 (by decide) ?_
      refine rw_goto (tgt := 59) dX12_boring_55 (by decide) ?_
      refine rw_sub [1, 2, 3, 4] rfl ?_
      exact t_jX12_boring_59 (ad := ad) (G := G)  v1 v2 v3 2 σ _ hr hf
  · rw [if_pos c7] at hf
    refine rw_iconst (v := 1) dX12_boring_41 (by decide) ?_
    refine rw_goto (tgt := 59) dX12_boring_42 (by decide) ?_
    refine rw_sub [1, 2, 3, 4] rfl ?_
    exact t_jX12_boring_59 (ad := ad) (G := G)  v1 v2 v3 1 σ _ hr hf
def jX12_boring_32  (v1 : Int32) (v2 : Int32) (v3 : Int32) (σ : rS) : Option (Int32 × rS) := jX12_boring_33 v1 v2 v3 0 σ
set_option maxHeartbeats 4000000 in
theorem t_jX12_boring_32 {G : rG} {ad : Nat → Nat} {o : (Int32 × rS)}   (v1 : Int32) (v2 : Int32) (v3 : Int32) (σ : rS) (h : rH) (hr : Rep G ad σ h) (hf : jX12_boring_32  v1 v2 v3 σ = some o) : RW G mX12_boring (rm 2 0 0) (qI G ad o) xN 0 0 32 [(0, .ref (ad 43)), (1, .int v1), (2, .int v2), (3, .int v3)] [] h := by
  unfold jX12_boring_32 at hf
  refine rw_iconst (v := 0) dX12_boring_32 (by decide) ?_
  exact t_jX12_boring_33 (ad := ad) (G := G)  v1 v2 v3 0 σ _ hr hf
def fX12_boring (a0 : Int32) (a1 : Int32) (a2 : Int32) (σ : rS) : Option (Int32 × rS) := (fX12_isPlace a0 a1 σ).bind fun q1 => if q1.1 = 0 then jX12_boring_32 a0 a1 a2 q1.2 else (fX12_in a2 ((-100000)) 100000 q1.2).bind fun q3 => if q3.1 = 0 then jX12_boring_32 a0 a1 a2 q3.2 else (fX12_isTaken a0 a1 q3.2).bind fun q5 => if q5.1 = 0 then jX12_boring_33 a0 a1 a2 1 q5.2 else jX12_boring_32 a0 a1 a2 q5.2
set_option maxHeartbeats 4000000 in
theorem cmX12_boring {G : rG} {ad : Nat → Nat} {a0 : Int32} {a1 : Int32} {a2 : Int32} {σ : rS} {h : rH} {o : (Int32 × rS)} (hr : Rep G ad σ h) (hf : fX12_boring a0 a1 a2 σ = some o) : rMT G mX12_boring (rm 2 0 0) [.ref (ad 43), .int a0, .int a1, .int a2] h (qI G ad o) xN := by
  unfold fX12_boring at hf
  refine rw_met (by decide +kernel) rfl (Nat.le_of_ble_eq_true rfl) ?_
  show RW G _ _ _ _ 0 0 0 [(0, .ref (ad 43)), (1, .int a0), (2, .int a1), (3, .int a2)] [] h
  refine rw_iload_n dX12_boring_0 1 rfl rfl ?_
  refine rw_iload_n dX12_boring_1 2 rfl rfl ?_
  obtain ⟨q1, hq1, hf⟩ := bnd hf
  refine kS_I (ad := ad) (As := [.int a0, .int a1]) (st := []) dX12_boring_2 calX12_isPlace wm1609 wm1610 rfl rfl (Nat.le_of_ble_eq_true rfl) ⟨⟨by decide, by decide⟩, by decide, by decide⟩ (cmX12_isPlace hr hq1) (fun h hr => ?_)
  refine rw_if_eq (tgt := 32) dX12_boring_5 (by decide) (fun c2 => ?_) (fun c2 => ?_)
  · rw [if_pos c2] at hf
    exact t_jX12_boring_32 (ad := ad) (G := G)  a0 a1 a2 q1.2 _ hr hf
  · rw [if_neg c2] at hf
    refine rw_iload_n dX12_boring_8 3 rfl rfl ?_
    refine rw_ldc (v := (-100000)) dX12_boring_9 wm1615 ?_
    refine rw_ldc (v := 100000) dX12_boring_11 wm1616 ?_
    obtain ⟨q3, hq3, hf⟩ := bnd hf
    refine kS_I (ad := ad) (As := [.int a2, .int ((-100000)), .int 100000]) (st := []) dX12_boring_13 calX12_in wm1612 wm1613 rfl rfl (Nat.le_of_ble_eq_true rfl) ⟨⟨by decide, by decide⟩, by decide, by decide⟩ (cmX12_in hr hq3) (fun h hr => ?_)
    refine rw_if_eq (tgt := 32) dX12_boring_16 (by decide) (fun c4 => ?_) (fun c4 => ?_)
    · rw [if_pos c4] at hf
      exact t_jX12_boring_32 (ad := ad) (G := G)  a0 a1 a2 q3.2 _ hr hf
    · rw [if_neg c4] at hf
      refine rw_aload_n dX12_boring_19 0 rfl rfl ?_
      refine rw_iload_n dX12_boring_20 1 rfl rfl ?_
      refine rw_iload_n dX12_boring_21 2 rfl rfl ?_
      obtain ⟨q5, hq5, hf⟩ := bnd hf
      refine kV_I (ad := ad) (As := [.int a0, .int a1]) (st := []) dX12_boring_22 calX12_isTaken wm1617 wm1619 wm31 rfl rfl (rc_43 hr) (ci := 12) (by decide) rfl rfl (Nat.le_of_ble_eq_true rfl) ⟨⟨by decide, by decide⟩, by decide, by decide⟩ (cmX12_isTaken hr hq5) (fun h hr => ?_)
      refine rw_if_ne (tgt := 32) dX12_boring_25 (by decide) (fun c6 => ?_) (fun c6 => ?_)
      · rw [if_neg c6] at hf
        exact t_jX12_boring_32 (ad := ad) (G := G)  a0 a1 a2 q5.2 _ hr hf
      · rw [if_pos c6] at hf
        refine rw_iconst (v := 1) dX12_boring_28 (by decide) ?_
        refine rw_goto (tgt := 33) dX12_boring_29 (by decide) ?_
        exact t_jX12_boring_33 (ad := ad) (G := G)  a0 a1 a2 1 q5.2 _ hr hf
def jX12_layer_54  (v1 : Int32) (v2 : Int32) (v3 : Int32) (s0 : Int32) (σ : rS) : Option (Int32 × rS) := vS (uI σ 43 0 s0) fun σ9 => if (σ9.1 43 0) ≤ 0 then if inB v1 16 then if inB ((12 * v1) + (σ9.2.2.1 47 v1.toNatClampNeg)) 192 then vS (uA σ9 48 ((12 * v1) + (σ9.2.2.1 47 v1.toNatClampNeg)).toNatClampNeg v2) fun σ13 => if inB v1 16 then if inB ((12 * v1) + (σ13.2.2.1 47 v1.toNatClampNeg)) 192 then vS (uA σ13 49 ((12 * v1) + (σ13.2.2.1 47 v1.toNatClampNeg)).toNatClampNeg v3) fun σ16 => if inB v1 16 then if inB v1 16 then vS (uA σ16 47 v1.toNatClampNeg ((σ16.2.2.1 47 v1.toNatClampNeg) + 1)) fun σ19 => vS (uI σ19 43 1 0) fun σ20 => if inB v1 16 then some (((σ20.2.2.1 47 v1.toNatClampNeg) - 1), σ20) else none else none else none else none else none else none else none else some (0, σ9)
set_option maxHeartbeats 4000000 in
theorem t_jX12_layer_54 {G : rG} {ad : Nat → Nat} {o : (Int32 × rS)}   (v1 : Int32) (v2 : Int32) (v3 : Int32) (s0 : Int32) (σ : rS) (h : rH) (hr : Rep G ad σ h) (hf : jX12_layer_54  v1 v2 v3 s0 σ = some o) : RW G mX12_layer (rm 2 0 0) (qI G ad o) xN 0 0 54 [(0, .ref (ad 43)), (1, .int v1), (2, .int v2), (3, .int v3)] [.int s0, .ref (ad 43)] h := by
  unfold jX12_layer_54 at hf
  refine sp_43_0 hr dX12_layer_54 fl1462 (fun h hr => ?_)
  refine nmS hf hr (fun σ9 hr hf => ?_)
  refine rw_aload_n dX12_layer_57 0 rfl rfl ?_
  refine sg_43_0 hr dX12_layer_58 fl1462 ?_
  refine rw_if_le (tgt := 66) dX12_layer_61 (by decide) (fun c10 => ?_) (fun c10 => ?_)
  · rw [if_pos c10] at hf
    refine rw_aload_n dX12_layer_66 0 rfl rfl ?_
    refine sg_43_7 hr dX12_layer_67 fl1469 ?_
    refine rw_bipush (v := 12) dX12_layer_70 (by decide) ?_
    refine rw_iload_n dX12_layer_72 1 rfl rfl ?_
    refine rw_imul dX12_layer_73 ?_
    refine rw_aload_n dX12_layer_74 0 rfl rfl ?_
    refine sg_43_6 hr dX12_layer_75 fl1468 ?_
    refine rw_iload_n dX12_layer_78 1 rfl rfl ?_
    obtain ⟨hi11, hf⟩ := grd hf
    refine sl_47 hr dX12_layer_79 (inB_in hi11) ?_
    refine rw_iadd dX12_layer_80 ?_
    refine rw_iload_n dX12_layer_81 2 rfl rfl ?_
    obtain ⟨hi12, hf⟩ := grd hf
    refine ss_48 hr dX12_layer_82 (inB_in hi12) (fun h hr => ?_)
    refine nmS hf hr (fun σ13 hr hf => ?_)
    refine rw_aload_n dX12_layer_83 0 rfl rfl ?_
    refine sg_43_8 hr dX12_layer_84 fl1470 ?_
    refine rw_bipush (v := 12) dX12_layer_87 (by decide) ?_
    refine rw_iload_n dX12_layer_89 1 rfl rfl ?_
    refine rw_imul dX12_layer_90 ?_
    refine rw_aload_n dX12_layer_91 0 rfl rfl ?_
    refine sg_43_6 hr dX12_layer_92 fl1468 ?_
    refine rw_iload_n dX12_layer_95 1 rfl rfl ?_
    obtain ⟨hi14, hf⟩ := grd hf
    refine sl_47 hr dX12_layer_96 (inB_in hi14) ?_
    refine rw_iadd dX12_layer_97 ?_
    refine rw_iload_n dX12_layer_98 3 rfl rfl ?_
    obtain ⟨hi15, hf⟩ := grd hf
    refine ss_49 hr dX12_layer_99 (inB_in hi15) (fun h hr => ?_)
    refine nmS hf hr (fun σ16 hr hf => ?_)
    refine rw_aload_n dX12_layer_100 0 rfl rfl ?_
    refine sg_43_6 hr dX12_layer_101 fl1468 ?_
    refine rw_iload_n dX12_layer_104 1 rfl rfl ?_
    refine rw_dup2 dX12_layer_105 rfl rfl ?_
    obtain ⟨hi17, hf⟩ := grd hf
    refine sl_47 hr dX12_layer_106 (inB_in hi17) ?_
    refine rw_iconst (v := 1) dX12_layer_107 (by decide) ?_
    refine rw_iadd dX12_layer_108 ?_
    obtain ⟨hi18, hf⟩ := grd hf
    refine ss_47 hr dX12_layer_109 (inB_in hi18) (fun h hr => ?_)
    refine nmS hf hr (fun σ19 hr hf => ?_)
    refine rw_aload_n dX12_layer_110 0 rfl rfl ?_
    refine rw_iconst (v := 0) dX12_layer_111 (by decide) ?_
    refine sp_43_1 hr dX12_layer_112 fl1463 (by decide) (by decide) (fun h hr => ?_)
    refine nmS hf hr (fun σ20 hr hf => ?_)
    refine rw_aload_n dX12_layer_115 0 rfl rfl ?_
    refine sg_43_6 hr dX12_layer_116 fl1468 ?_
    refine rw_iload_n dX12_layer_119 1 rfl rfl ?_
    obtain ⟨hi21, hf⟩ := grd hf
    refine sl_47 hr dX12_layer_120 (inB_in hi21) ?_
    refine rw_iconst (v := 1) dX12_layer_121 (by decide) ?_
    refine rw_isub dX12_layer_122 ?_
    replace hf := Option.some.inj hf
    subst hf
    exact rw_ireturn dX12_layer_123 rfl ⟨rfl, hr⟩ (by decide) (by decide)
  · rw [if_neg c10] at hf
    refine rw_iconst (v := 0) dX12_layer_64 (by decide) ?_
    replace hf := Option.some.inj hf
    subst hf
    exact rw_ireturn dX12_layer_65 rfl ⟨rfl, hr⟩ (by decide) (by decide)
def jX12_layer_34  (v1 : Int32) (v2 : Int32) (v3 : Int32) (σ : rS) : Option (Int32 × rS) := jX12_layer_54 v1 v2 v3 2 σ
set_option maxHeartbeats 4000000 in
theorem t_jX12_layer_34 {G : rG} {ad : Nat → Nat} {o : (Int32 × rS)}   (v1 : Int32) (v2 : Int32) (v3 : Int32) (σ : rS) (h : rH) (hr : Rep G ad σ h) (hf : jX12_layer_34  v1 v2 v3 σ = some o) : RW G mX12_layer (rm 2 0 0) (qI G ad o) xN 0 0 34 [(0, .ref (ad 43)), (1, .int v1), (2, .int v2), (3, .int v3)] [.ref (ad 43)] h := by
  unfold jX12_layer_34 at hf
  refine rw_iconst (v := 2) dX12_layer_34 (by decide) ?_
  refine rw_goto (tgt := 54) dX12_layer_35 (by decide) ?_
  exact t_jX12_layer_54 (ad := ad) (G := G)  v1 v2 v3 2 σ _ hr hf
def fX12_layer (a0 : Int32) (a1 : Int32) (a2 : Int32) (σ : rS) : Option (Int32 × rS) := (fX12_isBoring a0 σ).bind fun q1 => if q1.1 = 0 then jX12_layer_54 a0 a1 a2 1 q1.2 else (fX12_in a1 0 7 q1.2).bind fun q3 => if q3.1 = 0 then jX12_layer_34 a0 a1 a2 q3.2 else (fX12_in a2 1 10000 q3.2).bind fun q5 => if q5.1 = 0 then jX12_layer_34 a0 a1 a2 q5.2 else if inB a0 16 then (if (q5.2.2.2.1 47 a0.toNatClampNeg) = 12 then jX12_layer_54 a0 a1 a2 3 q5.2 else jX12_layer_54 a0 a1 a2 0 q5.2) else none
set_option maxHeartbeats 4000000 in
theorem cmX12_layer {G : rG} {ad : Nat → Nat} {a0 : Int32} {a1 : Int32} {a2 : Int32} {σ : rS} {h : rH} {o : (Int32 × rS)} (hr : Rep G ad σ h) (hf : fX12_layer a0 a1 a2 σ = some o) : rMT G mX12_layer (rm 2 0 0) [.ref (ad 43), .int a0, .int a1, .int a2] h (qI G ad o) xN := by
  unfold fX12_layer at hf
  refine rw_met (by decide +kernel) rfl (Nat.le_of_ble_eq_true rfl) ?_
  show RW G _ _ _ _ 0 0 0 [(0, .ref (ad 43)), (1, .int a0), (2, .int a1), (3, .int a2)] [] h
  refine rw_aload_n dX12_layer_0 0 rfl rfl ?_
  refine rw_aload_n dX12_layer_1 0 rfl rfl ?_
  refine rw_iload_n dX12_layer_2 1 rfl rfl ?_
  obtain ⟨q1, hq1, hf⟩ := bnd hf
  refine kV_I (ad := ad) (As := [.int a0]) (st := [.ref (ad 43)]) dX12_layer_3 calX12_isBoring wm1625 wm1627 wm32 rfl rfl (rc_43 hr) (ci := 12) (by decide) rfl rfl (Nat.le_of_ble_eq_true rfl) ⟨⟨by decide, by decide⟩, by decide, by decide⟩ (cmX12_isBoring hr hq1) (fun h hr => ?_)
  refine rw_if_ne (tgt := 13) dX12_layer_6 (by decide) (fun c2 => ?_) (fun c2 => ?_)
  · rw [if_neg c2] at hf
    refine rw_iload_n dX12_layer_13 2 rfl rfl ?_
    refine rw_iconst (v := 0) dX12_layer_14 (by decide) ?_
    refine rw_bipush (v := 7) dX12_layer_15 (by decide) ?_
    obtain ⟨q3, hq3, hf⟩ := bnd hf
    refine kS_I (ad := ad) (As := [.int a1, .int 0, .int 7]) (st := [.ref (ad 43)]) dX12_layer_17 calX12_in wm1612 wm1613 rfl rfl (Nat.le_of_ble_eq_true rfl) ⟨⟨by decide, by decide⟩, by decide, by decide⟩ (cmX12_in hr hq3) (fun h hr => ?_)
    refine rw_if_eq (tgt := 34) dX12_layer_20 (by decide) (fun c4 => ?_) (fun c4 => ?_)
    · rw [if_pos c4] at hf
      exact t_jX12_layer_34 (ad := ad) (G := G)  a0 a1 a2 q3.2 _ hr hf
    · rw [if_neg c4] at hf
      refine rw_iload_n dX12_layer_23 3 rfl rfl ?_
      refine rw_iconst (v := 1) dX12_layer_24 (by decide) ?_
      refine rw_sipush (v := 10000) dX12_layer_25 (by decide) ?_
      obtain ⟨q5, hq5, hf⟩ := bnd hf
      refine kS_I (ad := ad) (As := [.int a2, .int 1, .int 10000]) (st := [.ref (ad 43)]) dX12_layer_28 calX12_in wm1612 wm1613 rfl rfl (Nat.le_of_ble_eq_true rfl) ⟨⟨by decide, by decide⟩, by decide, by decide⟩ (cmX12_in hr hq5) (fun h hr => ?_)
      refine rw_if_ne (tgt := 38) dX12_layer_31 (by decide) (fun c6 => ?_) (fun c6 => ?_)
      · rw [if_neg c6] at hf
        refine rw_aload_n dX12_layer_38 0 rfl rfl ?_
        refine sg_43_6 hr dX12_layer_39 fl1468 ?_
        refine rw_iload_n dX12_layer_42 1 rfl rfl ?_
        obtain ⟨hi7, hf⟩ := grd hf
        refine sl_47 hr dX12_layer_43 (inB_in hi7) ?_
        refine rw_bipush (v := 12) dX12_layer_44 (by decide) ?_
        refine rw_icmp_ne (tgt := 53) dX12_layer_46 (by decide) (fun c8 => ?_) (fun c8 => ?_)
        · rw [if_neg c8] at hf
          refine rw_iconst (v := 0) dX12_layer_53 (by decide) ?_
          exact t_jX12_layer_54 (ad := ad) (G := G)  a0 a1 a2 0 q5.2 _ hr hf
        · rw [if_pos c8] at hf
          refine rw_iconst (v := 3) dX12_layer_49 (by decide) ?_
          refine rw_goto (tgt := 54) dX12_layer_50 (by decide) ?_
          exact t_jX12_layer_54 (ad := ad) (G := G)  a0 a1 a2 3 q5.2 _ hr hf
      · rw [if_pos c6] at hf
        exact t_jX12_layer_34 (ad := ad) (G := G)  a0 a1 a2 q5.2 _ hr hf
  · rw [if_pos c2] at hf
    refine rw_iconst (v := 1) dX12_layer_9 (by decide) ?_
    refine rw_goto (tgt := 54) dX12_layer_10 (by decide) ?_
    exact t_jX12_layer_54 (ad := ad) (G := G)  a0 a1 a2 1 q1.2 _ hr hf
def jX12_age_25   (σ : rS) : Option (Int32 × rS) := some (0, σ)
set_option maxHeartbeats 4000000 in
theorem t_jX12_age_25 {G : rG} {ad : Nat → Nat} {o : (Int32 × rS)}    (σ : rS) (h : rH) (hr : Rep G ad σ h) (hf : jX12_age_25   σ = some o) : RW G mX12_age (rm 1 0 0) (qI G ad o) xN 0 0 25 [] [] h := by
  unfold jX12_age_25 at hf
  refine rw_iconst (v := 0) dX12_age_25 (by decide) ?_
  replace hf := Option.some.inj hf
  subst hf
  exact rw_zreturn dX12_age_26 rfl (by decide) ⟨rfl, hr⟩ (by decide) (by decide)
def fX12_age (a0 : Int32) (a1 : Int32) (σ : rS) : Option (Int32 × rS) := vS (uI σ 43 0 0) fun σ1 => (fX12_in a0 0 7 σ1).bind fun q2 => if q2.1 = 0 then jX12_age_25 q2.2 else (fX12_in a1 0 99 q2.2).bind fun q4 => if q4.1 = 0 then jX12_age_25 q4.2 else if inB a0 8 then vS (uA q4.2 50 a0.toNatClampNeg a1) fun σ7 => vS (uI σ7 43 1 0) fun σ8 => some (1, σ8) else none
set_option maxHeartbeats 4000000 in
theorem cmX12_age {G : rG} {ad : Nat → Nat} {a0 : Int32} {a1 : Int32} {σ : rS} {h : rH} {o : (Int32 × rS)} (hr : Rep G ad σ h) (hf : fX12_age a0 a1 σ = some o) : rMT G mX12_age (rm 1 0 0) [.ref (ad 43), .int a0, .int a1] h (qI G ad o) xN := by
  unfold fX12_age at hf
  refine rw_met (by decide +kernel) rfl (Nat.le_of_ble_eq_true rfl) ?_
  show RW G _ _ _ _ 0 0 0 [(0, .ref (ad 43)), (1, .int a0), (2, .int a1)] [] h
  refine rw_aload_n dX12_age_0 0 rfl rfl ?_
  refine rw_iconst (v := 0) dX12_age_1 (by decide) ?_
  refine sp_43_0 hr dX12_age_2 fl1462 (fun h hr => ?_)
  refine nmS hf hr (fun σ1 hr hf => ?_)
  refine rw_iload_n dX12_age_5 1 rfl rfl ?_
  refine rw_iconst (v := 0) dX12_age_6 (by decide) ?_
  refine rw_bipush (v := 7) dX12_age_7 (by decide) ?_
  obtain ⟨q2, hq2, hf⟩ := bnd hf
  refine kS_I (ad := ad) (As := [.int a0, .int 0, .int 7]) (st := []) dX12_age_9 calX12_in wm1612 wm1613 rfl rfl (Nat.le_of_ble_eq_true rfl) ⟨⟨by decide, by decide⟩, by decide, by decide⟩ (cmX12_in hr hq2) (fun h hr => ?_)
  refine rw_if_eq (tgt := 25) dX12_age_12 (by decide) (fun c3 => ?_) (fun c3 => ?_)
  · rw [if_pos c3] at hf
    refine rw_sub [] rfl ?_
    exact t_jX12_age_25 (ad := ad) (G := G)  q2.2 _ hr hf
  · rw [if_neg c3] at hf
    refine rw_iload_n dX12_age_15 2 rfl rfl ?_
    refine rw_iconst (v := 0) dX12_age_16 (by decide) ?_
    refine rw_bipush (v := 99) dX12_age_17 (by decide) ?_
    obtain ⟨q4, hq4, hf⟩ := bnd hf
    refine kS_I (ad := ad) (As := [.int a1, .int 0, .int 99]) (st := []) dX12_age_19 calX12_in wm1612 wm1613 rfl rfl (Nat.le_of_ble_eq_true rfl) ⟨⟨by decide, by decide⟩, by decide, by decide⟩ (cmX12_in hr hq4) (fun h hr => ?_)
    refine rw_if_ne (tgt := 27) dX12_age_22 (by decide) (fun c5 => ?_) (fun c5 => ?_)
    · rw [if_neg c5] at hf
      refine rw_aload_n dX12_age_27 0 rfl rfl ?_
      refine sg_43_9 hr dX12_age_28 fl1471 ?_
      refine rw_iload_n dX12_age_31 1 rfl rfl ?_
      refine rw_iload_n dX12_age_32 2 rfl rfl ?_
      obtain ⟨hi6, hf⟩ := grd hf
      refine ss_50 hr dX12_age_33 (inB_in hi6) (fun h hr => ?_)
      refine nmS hf hr (fun σ7 hr hf => ?_)
      refine rw_aload_n dX12_age_34 0 rfl rfl ?_
      refine rw_iconst (v := 0) dX12_age_35 (by decide) ?_
      refine sp_43_1 hr dX12_age_36 fl1463 (by decide) (by decide) (fun h hr => ?_)
      refine nmS hf hr (fun σ8 hr hf => ?_)
      refine rw_iconst (v := 1) dX12_age_39 (by decide) ?_
      replace hf := Option.some.inj hf
      subst hf
      exact rw_zreturn dX12_age_40 rfl (by decide) ⟨rfl, hr⟩ (by decide) (by decide)
    · rw [if_pos c5] at hf
      refine rw_sub [] rfl ?_
      exact t_jX12_age_25 (ad := ad) (G := G)  q4.2 _ hr hf
def jX12_fault_42   (σ : rS) : Option (Int32 × rS) := some (0, σ)
set_option maxHeartbeats 4000000 in
theorem t_jX12_fault_42 {G : rG} {ad : Nat → Nat} {o : (Int32 × rS)}    (σ : rS) (h : rH) (hr : Rep G ad σ h) (hf : jX12_fault_42   σ = some o) : RW G mX12_fault (rm 2 0 0) (qI G ad o) xN 0 0 42 [] [] h := by
  unfold jX12_fault_42 at hf
  refine rw_iconst (v := 0) dX12_fault_42 (by decide) ?_
  replace hf := Option.some.inj hf
  subst hf
  exact rw_zreturn dX12_fault_43 rfl (by decide) ⟨rfl, hr⟩ (by decide) (by decide)
def jX12_fault_33  (v1 : Int32) (v2 : Int32) (v3 : Int32) (v4 : Int32) (σ : rS) : Option (Int32 × rS) := if (σ.1 43 10) = 8 then jX12_fault_42 σ else if inB (4 * (σ.1 43 10)) 32 then vS (uA σ 51 (4 * (σ.1 43 10)).toNatClampNeg v1) fun σ10 => if inB ((4 * (σ10.1 43 10)) + 1) 32 then vS (uA σ10 51 ((4 * (σ10.1 43 10)) + 1).toNatClampNeg v2) fun σ12 => if inB ((4 * (σ12.1 43 10)) + 2) 32 then vS (uA σ12 51 ((4 * (σ12.1 43 10)) + 2).toNatClampNeg v3) fun σ14 => if inB ((4 * (σ14.1 43 10)) + 3) 32 then vS (uA σ14 51 ((4 * (σ14.1 43 10)) + 3).toNatClampNeg v4) fun σ16 => vS (uI σ16 43 10 ((σ16.1 43 10) + 1)) fun σ17 => vS (uI σ17 43 1 0) fun σ18 => some (1, σ18) else none else none else none else none
set_option maxHeartbeats 4000000 in
theorem t_jX12_fault_33 {G : rG} {ad : Nat → Nat} {o : (Int32 × rS)}   (v1 : Int32) (v2 : Int32) (v3 : Int32) (v4 : Int32) (σ : rS) (h : rH) (hr : Rep G ad σ h) (hf : jX12_fault_33  v1 v2 v3 v4 σ = some o) : RW G mX12_fault (rm 2 0 0) (qI G ad o) xN 0 0 33 [(0, .ref (ad 43)), (1, .int v1), (2, .int v2), (3, .int v3), (4, .int v4)] [] h := by
  unfold jX12_fault_33 at hf
  refine rw_aload_n dX12_fault_33 0 rfl rfl ?_
  refine sg_43_10 hr dX12_fault_34 fl1472 ?_
  refine rw_bipush (v := 8) dX12_fault_37 (by decide) ?_
  refine rw_icmp_ne (tgt := 44) dX12_fault_39 (by decide) (fun c8 => ?_) (fun c8 => ?_)
  · rw [if_neg c8] at hf
    refine rw_aload_n dX12_fault_44 0 rfl rfl ?_
    refine sg_43_11 hr dX12_fault_45 fl1473 ?_
    refine rw_iconst (v := 4) dX12_fault_48 (by decide) ?_
    refine rw_aload_n dX12_fault_49 0 rfl rfl ?_
    refine sg_43_10 hr dX12_fault_50 fl1472 ?_
    refine rw_imul dX12_fault_53 ?_
    refine rw_iload_n dX12_fault_54 1 rfl rfl ?_
    obtain ⟨hi9, hf⟩ := grd hf
    refine ss_51 hr dX12_fault_55 (inB_in hi9) (fun h hr => ?_)
    refine nmS hf hr (fun σ10 hr hf => ?_)
    refine rw_aload_n dX12_fault_56 0 rfl rfl ?_
    refine sg_43_11 hr dX12_fault_57 fl1473 ?_
    refine rw_iconst (v := 4) dX12_fault_60 (by decide) ?_
    refine rw_aload_n dX12_fault_61 0 rfl rfl ?_
    refine sg_43_10 hr dX12_fault_62 fl1472 ?_
    refine rw_imul dX12_fault_65 ?_
    refine rw_iconst (v := 1) dX12_fault_66 (by decide) ?_
    refine rw_iadd dX12_fault_67 ?_
    refine rw_iload_n dX12_fault_68 2 rfl rfl ?_
    obtain ⟨hi11, hf⟩ := grd hf
    refine ss_51 hr dX12_fault_69 (inB_in hi11) (fun h hr => ?_)
    refine nmS hf hr (fun σ12 hr hf => ?_)
    refine rw_aload_n dX12_fault_70 0 rfl rfl ?_
    refine sg_43_11 hr dX12_fault_71 fl1473 ?_
    refine rw_iconst (v := 4) dX12_fault_74 (by decide) ?_
    refine rw_aload_n dX12_fault_75 0 rfl rfl ?_
    refine sg_43_10 hr dX12_fault_76 fl1472 ?_
    refine rw_imul dX12_fault_79 ?_
    refine rw_iconst (v := 2) dX12_fault_80 (by decide) ?_
    refine rw_iadd dX12_fault_81 ?_
    refine rw_iload_n dX12_fault_82 3 rfl rfl ?_
    obtain ⟨hi13, hf⟩ := grd hf
    refine ss_51 hr dX12_fault_83 (inB_in hi13) (fun h hr => ?_)
    refine nmS hf hr (fun σ14 hr hf => ?_)
    refine rw_aload_n dX12_fault_84 0 rfl rfl ?_
    refine sg_43_11 hr dX12_fault_85 fl1473 ?_
    refine rw_iconst (v := 4) dX12_fault_88 (by decide) ?_
    refine rw_aload_n dX12_fault_89 0 rfl rfl ?_
    refine sg_43_10 hr dX12_fault_90 fl1472 ?_
    refine rw_imul dX12_fault_93 ?_
    refine rw_iconst (v := 3) dX12_fault_94 (by decide) ?_
    refine rw_iadd dX12_fault_95 ?_
    refine rw_iload dX12_fault_96 4 rfl ?_
    obtain ⟨hi15, hf⟩ := grd hf
    refine ss_51 hr dX12_fault_98 (inB_in hi15) (fun h hr => ?_)
    refine nmS hf hr (fun σ16 hr hf => ?_)
    refine rw_aload_n dX12_fault_99 0 rfl rfl ?_
    refine rw_dup dX12_fault_100 rfl ?_
    refine sg_43_10 hr dX12_fault_101 fl1472 ?_
    refine rw_iconst (v := 1) dX12_fault_104 (by decide) ?_
    refine rw_iadd dX12_fault_105 ?_
    refine sp_43_10 hr dX12_fault_106 fl1472 (fun h hr => ?_)
    refine nmS hf hr (fun σ17 hr hf => ?_)
    refine rw_aload_n dX12_fault_109 0 rfl rfl ?_
    refine rw_iconst (v := 0) dX12_fault_110 (by decide) ?_
    refine sp_43_1 hr dX12_fault_111 fl1463 (by decide) (by decide) (fun h hr => ?_)
    refine nmS hf hr (fun σ18 hr hf => ?_)
    refine rw_iconst (v := 1) dX12_fault_114 (by decide) ?_
    replace hf := Option.some.inj hf
    subst hf
    exact rw_zreturn dX12_fault_115 rfl (by decide) ⟨rfl, hr⟩ (by decide) (by decide)
  · rw [if_pos c8] at hf
    refine rw_sub [] rfl ?_
    exact t_jX12_fault_42 (ad := ad) (G := G)  σ _ hr hf
def fX12_fault (a0 : Int32) (a1 : Int32) (a2 : Int32) (a3 : Int32) (σ : rS) : Option (Int32 × rS) := vS (uI σ 43 0 0) fun σ1 => (fX12_isPlace a0 a1 σ1).bind fun q2 => if q2.1 = 0 then jX12_fault_42 q2.2 else (fX12_isPlace a2 a3 q2.2).bind fun q4 => if q4.1 = 0 then jX12_fault_42 q4.2 else if a0 = a2 then if a1 = a3 then jX12_fault_42 q4.2 else jX12_fault_33 a0 a1 a2 a3 q4.2 else jX12_fault_33 a0 a1 a2 a3 q4.2
set_option maxHeartbeats 4000000 in
theorem cmX12_fault {G : rG} {ad : Nat → Nat} {a0 : Int32} {a1 : Int32} {a2 : Int32} {a3 : Int32} {σ : rS} {h : rH} {o : (Int32 × rS)} (hr : Rep G ad σ h) (hf : fX12_fault a0 a1 a2 a3 σ = some o) : rMT G mX12_fault (rm 2 0 0) [.ref (ad 43), .int a0, .int a1, .int a2, .int a3] h (qI G ad o) xN := by
  unfold fX12_fault at hf
  refine rw_met (by decide +kernel) rfl (Nat.le_of_ble_eq_true rfl) ?_
  show RW G _ _ _ _ 0 0 0 [(0, .ref (ad 43)), (1, .int a0), (2, .int a1), (3, .int a2), (4, .int a3)] [] h
  refine rw_aload_n dX12_fault_0 0 rfl rfl ?_
  refine rw_iconst (v := 0) dX12_fault_1 (by decide) ?_
  refine sp_43_0 hr dX12_fault_2 fl1462 (fun h hr => ?_)
  refine nmS hf hr (fun σ1 hr hf => ?_)
  refine rw_iload_n dX12_fault_5 1 rfl rfl ?_
  refine rw_iload_n dX12_fault_6 2 rfl rfl ?_
  obtain ⟨q2, hq2, hf⟩ := bnd hf
  refine kS_I (ad := ad) (As := [.int a0, .int a1]) (st := []) dX12_fault_7 calX12_isPlace wm1609 wm1610 rfl rfl (Nat.le_of_ble_eq_true rfl) ⟨⟨by decide, by decide⟩, by decide, by decide⟩ (cmX12_isPlace hr hq2) (fun h hr => ?_)
  refine rw_if_eq (tgt := 42) dX12_fault_10 (by decide) (fun c3 => ?_) (fun c3 => ?_)
  · rw [if_pos c3] at hf
    refine rw_sub [] rfl ?_
    exact t_jX12_fault_42 (ad := ad) (G := G)  q2.2 _ hr hf
  · rw [if_neg c3] at hf
    refine rw_iload_n dX12_fault_13 3 rfl rfl ?_
    refine rw_iload dX12_fault_14 4 rfl ?_
    obtain ⟨q4, hq4, hf⟩ := bnd hf
    refine kS_I (ad := ad) (As := [.int a2, .int a3]) (st := []) dX12_fault_16 calX12_isPlace wm1609 wm1610 rfl rfl (Nat.le_of_ble_eq_true rfl) ⟨⟨by decide, by decide⟩, by decide, by decide⟩ (cmX12_isPlace hr hq4) (fun h hr => ?_)
    refine rw_if_eq (tgt := 42) dX12_fault_19 (by decide) (fun c5 => ?_) (fun c5 => ?_)
    · rw [if_pos c5] at hf
      refine rw_sub [] rfl ?_
      exact t_jX12_fault_42 (ad := ad) (G := G)  q4.2 _ hr hf
    · rw [if_neg c5] at hf
      refine rw_iload_n dX12_fault_22 1 rfl rfl ?_
      refine rw_iload_n dX12_fault_23 3 rfl rfl ?_
      refine rw_icmp_ne (tgt := 33) dX12_fault_24 (by decide) (fun c6 => ?_) (fun c6 => ?_)
      · rw [if_neg c6] at hf
        exact t_jX12_fault_33 (ad := ad) (G := G)  a0 a1 a2 a3 q4.2 _ hr hf
      · rw [if_pos c6] at hf
        refine rw_iload_n dX12_fault_27 2 rfl rfl ?_
        refine rw_iload dX12_fault_28 4 rfl ?_
        refine rw_icmp_eq (tgt := 42) dX12_fault_30 (by decide) (fun c7 => ?_) (fun c7 => ?_)
        · rw [if_pos c7] at hf
          refine rw_sub [] rfl ?_
          exact t_jX12_fault_42 (ad := ad) (G := G)  q4.2 _ hr hf
        · rw [if_neg c7] at hf
          exact t_jX12_fault_33 (ad := ad) (G := G)  a0 a1 a2 a3 q4.2 _ hr hf
def jX12_lens_26  (v2 : Int32) (s0 : Int32) (σ : rS) : Option (Int32 × rS) := vS (uI σ 43 12 s0) fun σ5 => if v2 = 0 ∨ v2 = 1 then some (v2, σ5) else none
set_option maxHeartbeats 4000000 in
theorem t_jX12_lens_26 {G : rG} {ad : Nat → Nat} {o : (Int32 × rS)}   (v2 : Int32) (s0 : Int32) (σ : rS) (h : rH) (hr : Rep G ad σ h) (hf : jX12_lens_26  v2 s0 σ = some o) : RW G mX12_lens (rm 1 0 0) (qI G ad o) xN 0 0 26 [(2, .int v2)] [.int s0, .ref (ad 43)] h := by
  unfold jX12_lens_26 at hf
  refine sp_43_12 hr dX12_lens_26 fl1474 (fun h hr => ?_)
  refine nmS hf hr (fun σ5 hr hf => ?_)
  refine rw_iload_n dX12_lens_29 0 rfl rfl ?_
  obtain ⟨hz6, hf⟩ := grd hf
  replace hf := Option.some.inj hf
  subst hf
  exact rw_zreturn dX12_lens_30 rfl (nar_z hz6) ⟨rfl, hr⟩ (by decide) (by decide)
def fX12_lens (a0 : Int32) (σ : rS) : Option (Int32 × rS) := vS (uI σ 43 0 0) fun σ1 => (fX12_in a0 1 100 σ1).bind fun q2 => vI q2.1 fun x3 => if x3 = 0 then jX12_lens_26 x3 (q2.2.1 43 12) q2.2 else jX12_lens_26 x3 a0 q2.2
set_option maxHeartbeats 4000000 in
theorem cmX12_lens {G : rG} {ad : Nat → Nat} {a0 : Int32} {σ : rS} {h : rH} {o : (Int32 × rS)} (hr : Rep G ad σ h) (hf : fX12_lens a0 σ = some o) : rMT G mX12_lens (rm 1 0 0) [.ref (ad 43), .int a0] h (qI G ad o) xN := by
  unfold fX12_lens at hf
  refine rw_met (by decide +kernel) rfl (Nat.le_of_ble_eq_true rfl) ?_
  show RW G _ _ _ _ 0 0 0 [(0, .ref (ad 43)), (1, .int a0)] [] h
  refine rw_aload_n dX12_lens_0 0 rfl rfl ?_
  refine rw_iconst (v := 0) dX12_lens_1 (by decide) ?_
  refine sp_43_0 hr dX12_lens_2 fl1462 (fun h hr => ?_)
  refine nmS hf hr (fun σ1 hr hf => ?_)
  refine rw_iload_n dX12_lens_5 1 rfl rfl ?_
  refine rw_iconst (v := 1) dX12_lens_6 (by decide) ?_
  refine rw_bipush (v := 100) dX12_lens_7 (by decide) ?_
  obtain ⟨q2, hq2, hf⟩ := bnd hf
  refine kS_I (ad := ad) (As := [.int a0, .int 1, .int 100]) (st := []) dX12_lens_9 calX12_in wm1612 wm1613 rfl rfl (Nat.le_of_ble_eq_true rfl) ⟨⟨by decide, by decide⟩, by decide, by decide⟩ (cmX12_in hr hq2) (fun h hr => ?_)
  refine nmI hf (fun x3 hf => ?_)
  refine rw_istore_n (lv2 := [(2, .int x3), (0, .ref (ad 43)), (1, .int a0)]) dX12_lens_12 rfl (by decide) rfl ?_
  refine rw_aload_n dX12_lens_13 1 rfl rfl ?_
  refine rw_iload_n dX12_lens_14 0 rfl rfl ?_
  refine rw_if_eq (tgt := 22) dX12_lens_15 (by decide) (fun c4 => ?_) (fun c4 => ?_)
  · rw [if_pos c4] at hf
    refine rw_aload_n dX12_lens_22 1 rfl rfl ?_
    refine sg_43_12 hr dX12_lens_23 fl1474 ?_
    refine rw_sub [0] rfl ?_
    exact t_jX12_lens_26 (ad := ad) (G := G)  x3 (q2.2.1 43 12) q2.2 _ hr hf
  · rw [if_neg c4] at hf
    refine rw_iload_n dX12_lens_18 2 rfl rfl ?_
    refine rw_goto (tgt := 26) dX12_lens_19 (by decide) ?_
    refine rw_sub [0] rfl ?_
    exact t_jX12_lens_26 (ad := ad) (G := G)  x3 a0 q2.2 _ hr hf
def jX12_water_146  (s0 : Int32) (σ : rS) : Option (Int32 × rS) := vS (uI σ 43 14 s0) fun σ21 => some (1, σ21)
set_option maxHeartbeats 4000000 in
theorem t_jX12_water_146 {G : rG} {ad : Nat → Nat} {o : (Int32 × rS)}   (s0 : Int32) (σ : rS) (h : rH) (hr : Rep G ad σ h) (hf : jX12_water_146  s0 σ = some o) : RW G mX12_water (rm 2 0 0) (qI G ad o) xN 0 0 146 [] [.int s0, .ref (ad 43)] h := by
  unfold jX12_water_146 at hf
  refine sp_43_14 hr dX12_water_146 fl1476 (fun h hr => ?_)
  refine nmS hf hr (fun σ21 hr hf => ?_)
  refine rw_iconst (v := 1) dX12_water_149 (by decide) ?_
  replace hf := Option.some.inj hf
  subst hf
  exact rw_zreturn dX12_water_150 rfl (by decide) ⟨rfl, hr⟩ (by decide) (by decide)
def jX12_water_82  (v1 : Int32) (v2 : Int32) (v3 : Int32) (v4 : Int32) (σ : rS) : Option (Int32 × rS) := if v4 = 60 then some (0, σ) else if inB (3 * v4) 180 then vS (uA σ 52 (3 * v4).toNatClampNeg v1) fun σ15 => if inB ((3 * v4) + 1) 180 then vS (uA σ15 52 ((3 * v4) + 1).toNatClampNeg v2) fun σ17 => if inB ((3 * v4) + 2) 180 then vS (uA σ17 52 ((3 * v4) + 2).toNatClampNeg v3) fun σ19 => (if v4 = (σ19.1 43 14) then jX12_water_146 (v4 + 1) σ19 else jX12_water_146 (σ19.1 43 14) σ19) else none else none else none
set_option maxHeartbeats 4000000 in
theorem t_jX12_water_82 {G : rG} {ad : Nat → Nat} {o : (Int32 × rS)}   (v1 : Int32) (v2 : Int32) (v3 : Int32) (v4 : Int32) (σ : rS) (h : rH) (hr : Rep G ad σ h) (hf : jX12_water_82  v1 v2 v3 v4 σ = some o) : RW G mX12_water (rm 2 0 0) (qI G ad o) xN 0 0 82 [(0, .ref (ad 43)), (1, .int v1), (2, .int v2), (3, .int v3), (4, .int v4)] [] h := by
  unfold jX12_water_82 at hf
  refine rw_iload dX12_water_82 4 rfl ?_
  refine rw_bipush (v := 60) dX12_water_84 (by decide) ?_
  refine rw_icmp_ne (tgt := 91) dX12_water_86 (by decide) (fun c13 => ?_) (fun c13 => ?_)
  · rw [if_neg c13] at hf
    refine rw_aload_n dX12_water_91 0 rfl rfl ?_
    refine sg_43_15 hr dX12_water_92 fl1477 ?_
    refine rw_iconst (v := 3) dX12_water_95 (by decide) ?_
    refine rw_iload dX12_water_96 4 rfl ?_
    refine rw_imul dX12_water_98 ?_
    refine rw_iload_n dX12_water_99 1 rfl rfl ?_
    obtain ⟨hi14, hf⟩ := grd hf
    refine ss_52 hr dX12_water_100 (inB_in hi14) (fun h hr => ?_)
    refine nmS hf hr (fun σ15 hr hf => ?_)
    refine rw_aload_n dX12_water_101 0 rfl rfl ?_
    refine sg_43_15 hr dX12_water_102 fl1477 ?_
    refine rw_iconst (v := 3) dX12_water_105 (by decide) ?_
    refine rw_iload dX12_water_106 4 rfl ?_
    refine rw_imul dX12_water_108 ?_
    refine rw_iconst (v := 1) dX12_water_109 (by decide) ?_
    refine rw_iadd dX12_water_110 ?_
    refine rw_iload_n dX12_water_111 2 rfl rfl ?_
    obtain ⟨hi16, hf⟩ := grd hf
    refine ss_52 hr dX12_water_112 (inB_in hi16) (fun h hr => ?_)
    refine nmS hf hr (fun σ17 hr hf => ?_)
    refine rw_aload_n dX12_water_113 0 rfl rfl ?_
    refine sg_43_15 hr dX12_water_114 fl1477 ?_
    refine rw_iconst (v := 3) dX12_water_117 (by decide) ?_
    refine rw_iload dX12_water_118 4 rfl ?_
    refine rw_imul dX12_water_120 ?_
    refine rw_iconst (v := 2) dX12_water_121 (by decide) ?_
    refine rw_iadd dX12_water_122 ?_
    refine rw_iload_n dX12_water_123 3 rfl rfl ?_
    obtain ⟨hi18, hf⟩ := grd hf
    refine ss_52 hr dX12_water_124 (inB_in hi18) (fun h hr => ?_)
    refine nmS hf hr (fun σ19 hr hf => ?_)
    refine rw_aload_n dX12_water_125 0 rfl rfl ?_
    refine rw_iload dX12_water_126 4 rfl ?_
    refine rw_aload_n dX12_water_128 0 rfl rfl ?_
    refine sg_43_14 hr dX12_water_129 fl1476 ?_
    refine rw_icmp_ne (tgt := 142) dX12_water_132 (by decide) (fun c20 => ?_) (fun c20 => ?_)
    · rw [if_neg c20] at hf
      refine rw_aload_n dX12_water_142 0 rfl rfl ?_
      refine sg_43_14 hr dX12_water_143 fl1476 ?_
      refine rw_sub [] rfl ?_
      exact t_jX12_water_146 (ad := ad) (G := G)  (σ19.1 43 14) σ19 _ hr hf
    · rw [if_pos c20] at hf
      refine rw_iload dX12_water_135 4 rfl ?_
      refine rw_iconst (v := 1) dX12_water_137 (by decide) ?_
      refine rw_iadd dX12_water_138 ?_
      refine rw_goto (tgt := 146) dX12_water_139 (by decide) ?_
      refine rw_sub [] rfl ?_
      exact t_jX12_water_146 (ad := ad) (G := G)  (v4 + 1) σ19 _ hr hf
  · rw [if_pos c13] at hf
    refine rw_iconst (v := 0) dX12_water_89 (by decide) ?_
    replace hf := Option.some.inj hf
    subst hf
    exact rw_zreturn dX12_water_90 rfl (by decide) ⟨rfl, hr⟩ (by decide) (by decide)
def jX12_water_76 (k39 : Int32 → Int32 → Int32 → Int32 → rS → Option (Int32 × rS)) (v1 : Int32) (v2 : Int32) (v3 : Int32) (v4 : Int32) (σ : rS) : Option (Int32 × rS) := vI (v4 + 1) fun x22 => k39 v1 v2 v3 x22 σ
set_option maxHeartbeats 4000000 in
theorem t_jX12_water_76 {G : rG} {ad : Nat → Nat} {o : (Int32 × rS)} (k39 : Int32 → Int32 → Int32 → Int32 → rS → Option (Int32 × rS)) (hk39 : ∀ (v1 : Int32) (v2 : Int32) (v3 : Int32) (v4 : Int32) (σ : rS) (h : rH), Rep G ad σ h → k39 v1 v2 v3 v4 σ = some o → RW G mX12_water (rm 2 0 0) (qI G ad o) xN 0 0 39 [(0, .ref (ad 43)), (1, .int v1), (2, .int v2), (3, .int v3), (4, .int v4)] [] h) (v1 : Int32) (v2 : Int32) (v3 : Int32) (v4 : Int32) (σ : rS) (h : rH) (hr : Rep G ad σ h) (hf : jX12_water_76 k39 v1 v2 v3 v4 σ = some o) : RW G mX12_water (rm 2 0 0) (qI G ad o) xN 0 0 76 [(0, .ref (ad 43)), (1, .int v1), (2, .int v2), (3, .int v3), (4, .int v4)] [] h := by
  unfold jX12_water_76 at hf
  refine rw_iinc (v := v4 + 1) (lv2 := [(4, .int (v4 + 1)), (0, .ref (ad 43)), (1, .int v1), (2, .int v2), (3, .int v3)]) dX12_water_76 4 rfl rfl (by decide) rfl ?_
  refine nmL hf (fun x22 hf => ?_)
  refine rw_goto (tgt := 39) dX12_water_79 (by decide) ?_
  refine rw_sub [1, 2, 3, 4, 0] rfl ?_
  exact hk39 v1 v2 v3 x22 σ _ hr hf
def lX12_water_39  : Nat → Int32 → Int32 → Int32 → Int32 → rS → Option (Int32 × rS)
  | 0, _, _, _, _, _ => none
  | n + 1, v1, v2, v3, v4, σ => if (σ.1 43 14) ≤ v4 then jX12_water_82 v1 v2 v3 v4 σ else if inB (3 * v4) 180 then (if (σ.2.2.1 52 (3 * v4).toNatClampNeg) = v1 then if inB ((3 * v4) + 1) 180 then (if (σ.2.2.1 52 ((3 * v4) + 1).toNatClampNeg) = v2 then jX12_water_82 v1 v2 v3 v4 σ else jX12_water_76 (lX12_water_39 n) v1 v2 v3 v4 σ) else none else jX12_water_76 (lX12_water_39 n) v1 v2 v3 v4 σ) else none
set_option maxHeartbeats 4000000 in
theorem t_lX12_water_39 {G : rG} {ad : Nat → Nat} {o : (Int32 × rS)}   : ∀ (n : Nat) (v1 : Int32) (v2 : Int32) (v3 : Int32) (v4 : Int32) (σ : rS) (h : rH), Rep G ad σ h → lX12_water_39  n v1 v2 v3 v4 σ = some o → RW G mX12_water (rm 2 0 0) (qI G ad o) xN 0 0 39 [(0, .ref (ad 43)), (1, .int v1), (2, .int v2), (3, .int v3), (4, .int v4)] [] h := by
  intro n
  induction n with
  | zero =>
    intro v1 v2 v3 v4 σ h hr hf
    rw [lX12_water_39] at hf
    cases hf
  | succ n ih =>
    intro v1 v2 v3 v4 σ h hr hf
    rw [lX12_water_39] at hf
    refine rw_iload dX12_water_39 4 rfl ?_
    refine rw_aload_n dX12_water_41 0 rfl rfl ?_
    refine sg_43_14 hr dX12_water_42 fl1476 ?_
    refine rw_icmp_ge (tgt := 82) dX12_water_45 (by decide) (fun c8 => ?_) (fun c8 => ?_)
    · rw [if_pos c8] at hf
      exact t_jX12_water_82 (ad := ad) (G := G)  v1 v2 v3 v4 σ _ hr hf
    · rw [if_neg c8] at hf
      refine rw_aload_n dX12_water_48 0 rfl rfl ?_
      refine sg_43_15 hr dX12_water_49 fl1477 ?_
      refine rw_iconst (v := 3) dX12_water_52 (by decide) ?_
      refine rw_iload dX12_water_53 4 rfl ?_
      refine rw_imul dX12_water_55 ?_
      obtain ⟨hi9, hf⟩ := grd hf
      refine sl_52 hr dX12_water_56 (inB_in hi9) ?_
      refine rw_iload_n dX12_water_57 1 rfl rfl ?_
      refine rw_icmp_ne (tgt := 76) dX12_water_58 (by decide) (fun c10 => ?_) (fun c10 => ?_)
      · rw [if_neg c10] at hf
        exact t_jX12_water_76 (ad := ad) (G := G) (lX12_water_39 n) ih v1 v2 v3 v4 σ _ hr hf
      · rw [if_pos c10] at hf
        refine rw_aload_n dX12_water_61 0 rfl rfl ?_
        refine sg_43_15 hr dX12_water_62 fl1477 ?_
        refine rw_iconst (v := 3) dX12_water_65 (by decide) ?_
        refine rw_iload dX12_water_66 4 rfl ?_
        refine rw_imul dX12_water_68 ?_
        refine rw_iconst (v := 1) dX12_water_69 (by decide) ?_
        refine rw_iadd dX12_water_70 ?_
        obtain ⟨hi11, hf⟩ := grd hf
        refine sl_52 hr dX12_water_71 (inB_in hi11) ?_
        refine rw_iload_n dX12_water_72 2 rfl rfl ?_
        refine rw_icmp_eq (tgt := 82) dX12_water_73 (by decide) (fun c12 => ?_) (fun c12 => ?_)
        · rw [if_pos c12] at hf
          exact t_jX12_water_82 (ad := ad) (G := G)  v1 v2 v3 v4 σ _ hr hf
        · rw [if_neg c12] at hf
          exact t_jX12_water_76 (ad := ad) (G := G) (lX12_water_39 n) ih v1 v2 v3 v4 σ _ hr hf
def jX12_water_34   (σ : rS) : Option (Int32 × rS) := some (0, σ)
set_option maxHeartbeats 4000000 in
theorem t_jX12_water_34 {G : rG} {ad : Nat → Nat} {o : (Int32 × rS)}    (σ : rS) (h : rH) (hr : Rep G ad σ h) (hf : jX12_water_34   σ = some o) : RW G mX12_water (rm 2 0 0) (qI G ad o) xN 0 0 34 [] [] h := by
  unfold jX12_water_34 at hf
  refine rw_iconst (v := 0) dX12_water_34 (by decide) ?_
  replace hf := Option.some.inj hf
  subst hf
  exact rw_zreturn dX12_water_35 rfl (by decide) ⟨rfl, hr⟩ (by decide) (by decide)
def fX12_water (a0 : Int32) (a1 : Int32) (a2 : Int32) (σ : rS) : Option (Int32 × rS) := vS (uI σ 43 0 0) fun σ1 => (fX12_isBoring a0 σ1).bind fun q2 => if q2.1 = 0 then jX12_water_34 q2.2 else (fX12_in a1 0 99 q2.2).bind fun q4 => if q4.1 = 0 then jX12_water_34 q4.2 else (fX12_in a2 ((-100000)) 100000 q4.2).bind fun q6 => if q6.1 = 0 then jX12_water_34 q6.2 else lX12_water_39 1000 a0 a1 a2 0 q6.2
set_option maxHeartbeats 4000000 in
theorem cmX12_water {G : rG} {ad : Nat → Nat} {a0 : Int32} {a1 : Int32} {a2 : Int32} {σ : rS} {h : rH} {o : (Int32 × rS)} (hr : Rep G ad σ h) (hf : fX12_water a0 a1 a2 σ = some o) : rMT G mX12_water (rm 2 0 0) [.ref (ad 43), .int a0, .int a1, .int a2] h (qI G ad o) xN := by
  unfold fX12_water at hf
  refine rw_met (by decide +kernel) rfl (Nat.le_of_ble_eq_true rfl) ?_
  show RW G _ _ _ _ 0 0 0 [(0, .ref (ad 43)), (1, .int a0), (2, .int a1), (3, .int a2)] [] h
  refine rw_aload_n dX12_water_0 0 rfl rfl ?_
  refine rw_iconst (v := 0) dX12_water_1 (by decide) ?_
  refine sp_43_0 hr dX12_water_2 fl1462 (fun h hr => ?_)
  refine nmS hf hr (fun σ1 hr hf => ?_)
  refine rw_aload_n dX12_water_5 0 rfl rfl ?_
  refine rw_iload_n dX12_water_6 1 rfl rfl ?_
  obtain ⟨q2, hq2, hf⟩ := bnd hf
  refine kV_I (ad := ad) (As := [.int a0]) (st := []) dX12_water_7 calX12_isBoring wm1625 wm1627 wm32 rfl rfl (rc_43 hr) (ci := 12) (by decide) rfl rfl (Nat.le_of_ble_eq_true rfl) ⟨⟨by decide, by decide⟩, by decide, by decide⟩ (cmX12_isBoring hr hq2) (fun h hr => ?_)
  refine rw_if_eq (tgt := 34) dX12_water_10 (by decide) (fun c3 => ?_) (fun c3 => ?_)
  · rw [if_pos c3] at hf
    refine rw_sub [] rfl ?_
    exact t_jX12_water_34 (ad := ad) (G := G)  q2.2 _ hr hf
  · rw [if_neg c3] at hf
    refine rw_iload_n dX12_water_13 2 rfl rfl ?_
    refine rw_iconst (v := 0) dX12_water_14 (by decide) ?_
    refine rw_bipush (v := 99) dX12_water_15 (by decide) ?_
    obtain ⟨q4, hq4, hf⟩ := bnd hf
    refine kS_I (ad := ad) (As := [.int a1, .int 0, .int 99]) (st := []) dX12_water_17 calX12_in wm1612 wm1613 rfl rfl (Nat.le_of_ble_eq_true rfl) ⟨⟨by decide, by decide⟩, by decide, by decide⟩ (cmX12_in hr hq4) (fun h hr => ?_)
    refine rw_if_eq (tgt := 34) dX12_water_20 (by decide) (fun c5 => ?_) (fun c5 => ?_)
    · rw [if_pos c5] at hf
      refine rw_sub [] rfl ?_
      exact t_jX12_water_34 (ad := ad) (G := G)  q4.2 _ hr hf
    · rw [if_neg c5] at hf
      refine rw_iload_n dX12_water_23 3 rfl rfl ?_
      refine rw_ldc (v := (-100000)) dX12_water_24 wm1615 ?_
      refine rw_ldc (v := 100000) dX12_water_26 wm1616 ?_
      obtain ⟨q6, hq6, hf⟩ := bnd hf
      refine kS_I (ad := ad) (As := [.int a2, .int ((-100000)), .int 100000]) (st := []) dX12_water_28 calX12_in wm1612 wm1613 rfl rfl (Nat.le_of_ble_eq_true rfl) ⟨⟨by decide, by decide⟩, by decide, by decide⟩ (cmX12_in hr hq6) (fun h hr => ?_)
      refine rw_if_ne (tgt := 36) dX12_water_31 (by decide) (fun c7 => ?_) (fun c7 => ?_)
      · rw [if_neg c7] at hf
        refine rw_iconst (v := 0) dX12_water_36 (by decide) ?_
        refine rw_istore (lv2 := [(4, .int 0), (0, .ref (ad 43)), (1, .int a0), (2, .int a1), (3, .int a2)]) dX12_water_37 (by decide) rfl ?_
        refine rw_sub [1, 2, 3, 4, 0] rfl ?_
        exact t_lX12_water_39 (ad := ad) (G := G)  1000 a0 a1 a2 0 q6.2 _ hr hf
      · rw [if_pos c7] at hf
        refine rw_sub [] rfl ?_
        exact t_jX12_water_34 (ad := ad) (G := G)  q6.2 _ hr hf
def jX12_within_27  (v2 : Int32) (s0 : Int32) (σ : rS) : Option (Int32 × rS) := vS (uI σ 43 13 s0) fun σ5 => if v2 = 0 ∨ v2 = 1 then some (v2, σ5) else none
set_option maxHeartbeats 4000000 in
theorem t_jX12_within_27 {G : rG} {ad : Nat → Nat} {o : (Int32 × rS)}   (v2 : Int32) (s0 : Int32) (σ : rS) (h : rH) (hr : Rep G ad σ h) (hf : jX12_within_27  v2 s0 σ = some o) : RW G mX12_within (rm 1 0 0) (qI G ad o) xN 0 0 27 [(2, .int v2)] [.int s0, .ref (ad 43)] h := by
  unfold jX12_within_27 at hf
  refine sp_43_13 hr dX12_within_27 fl1475 (fun h hr => ?_)
  refine nmS hf hr (fun σ5 hr hf => ?_)
  refine rw_iload_n dX12_within_30 0 rfl rfl ?_
  obtain ⟨hz6, hf⟩ := grd hf
  replace hf := Option.some.inj hf
  subst hf
  exact rw_zreturn dX12_within_31 rfl (nar_z hz6) ⟨rfl, hr⟩ (by decide) (by decide)
def fX12_within (a0 : Int32) (σ : rS) : Option (Int32 × rS) := vS (uI σ 43 0 0) fun σ1 => (fX12_in a0 0 10000 σ1).bind fun q2 => vI q2.1 fun x3 => if x3 = 0 then jX12_within_27 x3 (q2.2.1 43 13) q2.2 else jX12_within_27 x3 a0 q2.2
set_option maxHeartbeats 4000000 in
theorem cmX12_within {G : rG} {ad : Nat → Nat} {a0 : Int32} {σ : rS} {h : rH} {o : (Int32 × rS)} (hr : Rep G ad σ h) (hf : fX12_within a0 σ = some o) : rMT G mX12_within (rm 1 0 0) [.ref (ad 43), .int a0] h (qI G ad o) xN := by
  unfold fX12_within at hf
  refine rw_met (by decide +kernel) rfl (Nat.le_of_ble_eq_true rfl) ?_
  show RW G _ _ _ _ 0 0 0 [(0, .ref (ad 43)), (1, .int a0)] [] h
  refine rw_aload_n dX12_within_0 0 rfl rfl ?_
  refine rw_iconst (v := 0) dX12_within_1 (by decide) ?_
  refine sp_43_0 hr dX12_within_2 fl1462 (fun h hr => ?_)
  refine nmS hf hr (fun σ1 hr hf => ?_)
  refine rw_iload_n dX12_within_5 1 rfl rfl ?_
  refine rw_iconst (v := 0) dX12_within_6 (by decide) ?_
  refine rw_sipush (v := 10000) dX12_within_7 (by decide) ?_
  obtain ⟨q2, hq2, hf⟩ := bnd hf
  refine kS_I (ad := ad) (As := [.int a0, .int 0, .int 10000]) (st := []) dX12_within_10 calX12_in wm1612 wm1613 rfl rfl (Nat.le_of_ble_eq_true rfl) ⟨⟨by decide, by decide⟩, by decide, by decide⟩ (cmX12_in hr hq2) (fun h hr => ?_)
  refine nmI hf (fun x3 hf => ?_)
  refine rw_istore_n (lv2 := [(2, .int x3), (0, .ref (ad 43)), (1, .int a0)]) dX12_within_13 rfl (by decide) rfl ?_
  refine rw_aload_n dX12_within_14 1 rfl rfl ?_
  refine rw_iload_n dX12_within_15 0 rfl rfl ?_
  refine rw_if_eq (tgt := 23) dX12_within_16 (by decide) (fun c4 => ?_) (fun c4 => ?_)
  · rw [if_pos c4] at hf
    refine rw_aload_n dX12_within_23 1 rfl rfl ?_
    refine sg_43_13 hr dX12_within_24 fl1475 ?_
    refine rw_sub [0] rfl ?_
    exact t_jX12_within_27 (ad := ad) (G := G)  x3 (q2.2.1 43 13) q2.2 _ hr hf
  · rw [if_neg c4] at hf
    refine rw_iload_n dX12_within_19 2 rfl rfl ?_
    refine rw_goto (tgt := 27) dX12_within_20 (by decide) ?_
    refine rw_sub [0] rfl ?_
    exact t_jX12_within_27 (ad := ad) (G := G)  x3 a0 q2.2 _ hr hf
def fX12_cross (a0 : Int64) (a1 : Int64) (a2 : Int64) (a3 : Int64) (σ : rS) : Option (Int64 × rS) := some (((a0 * a3) - (a1 * a2)), σ)
set_option maxHeartbeats 4000000 in
theorem cmX12_cross {G : rG} {ad : Nat → Nat} {a0 : Int64} {a1 : Int64} {a2 : Int64} {a3 : Int64} {σ : rS} {h : rH} {o : (Int64 × rS)} (hr : Rep G ad σ h) (hf : fX12_cross a0 a1 a2 a3 σ = some o) : rMT G mX12_cross (rm 0 0 0) [.long a0, .long a1, .long a2, .long a3] h (qJ G ad o) xN := by
  unfold fX12_cross at hf
  refine rw_met (by decide +kernel) rfl (Nat.le_of_ble_eq_true rfl) ?_
  show RW G _ _ _ _ 0 0 0 [(0, .long a0), (2, .long a1), (4, .long a2), (6, .long a3)] [] h
  refine rw_lload_n dX12_cross_0 0 rfl rfl ?_
  refine rw_lload dX12_cross_1 3 rfl ?_
  refine rw_lmul dX12_cross_3 ?_
  refine rw_lload_n dX12_cross_4 1 rfl rfl ?_
  refine rw_lload dX12_cross_5 2 rfl ?_
  refine rw_lmul dX12_cross_7 ?_
  refine rw_lsub dX12_cross_8 ?_
  replace hf := Option.some.inj hf
  subst hf
  exact rw_lreturn dX12_cross_9 rfl ⟨rfl, hr⟩ (by decide) (by decide)
def jX12_side_46  (s0 : Int32) (σ : rS) : Option (Int32 × rS) := some (s0, σ)
set_option maxHeartbeats 4000000 in
theorem t_jX12_side_46 {G : rG} {ad : Nat → Nat} {o : (Int32 × rS)}   (s0 : Int32) (σ : rS) (h : rH) (hr : Rep G ad σ h) (hf : jX12_side_46  s0 σ = some o) : RW G mX12_side (rm 1 0 0) (qI G ad o) xN 0 0 46 [] [.int s0] h := by
  unfold jX12_side_46 at hf
  replace hf := Option.some.inj hf
  subst hf
  exact rw_ireturn dX12_side_46 rfl ⟨rfl, hr⟩ (by decide) (by decide)
def fX12_side (a0 : Int32) (a1 : Int32) (a2 : Int32) (a3 : Int32) (a4 : Int32) (a5 : Int32) (σ : rS) : Option (Int32 × rS) := (fX12_cross ((a2 - a0).toInt64) ((a3 - a1).toInt64) ((a4 - a0).toInt64) ((a5 - a1).toInt64) σ).bind fun q1 => vJ q1.1 fun x2 => if (lg_cmp x2 0) ≤ 0 then if 0 ≤ (lg_cmp x2 0) then jX12_side_46 0 q1.2 else jX12_side_46 ((-1)) q1.2 else jX12_side_46 1 q1.2
set_option maxHeartbeats 4000000 in
theorem cmX12_side {G : rG} {ad : Nat → Nat} {a0 : Int32} {a1 : Int32} {a2 : Int32} {a3 : Int32} {a4 : Int32} {a5 : Int32} {σ : rS} {h : rH} {o : (Int32 × rS)} (hr : Rep G ad σ h) (hf : fX12_side a0 a1 a2 a3 a4 a5 σ = some o) : rMT G mX12_side (rm 1 0 0) [.int a0, .int a1, .int a2, .int a3, .int a4, .int a5] h (qI G ad o) xN := by
  unfold fX12_side at hf
  refine rw_met (by decide +kernel) rfl (Nat.le_of_ble_eq_true rfl) ?_
  show RW G _ _ _ _ 0 0 0 [(0, .int a0), (1, .int a1), (2, .int a2), (3, .int a3), (4, .int a4), (5, .int a5)] [] h
  refine rw_iload_n dX12_side_0 2 rfl rfl ?_
  refine rw_iload_n dX12_side_1 0 rfl rfl ?_
  refine rw_isub dX12_side_2 ?_
  refine rw_i2l dX12_side_3 ?_
  refine rw_iload_n dX12_side_4 3 rfl rfl ?_
  refine rw_iload_n dX12_side_5 1 rfl rfl ?_
  refine rw_isub dX12_side_6 ?_
  refine rw_i2l dX12_side_7 ?_
  refine rw_iload dX12_side_8 4 rfl ?_
  refine rw_iload_n dX12_side_10 0 rfl rfl ?_
  refine rw_isub dX12_side_11 ?_
  refine rw_i2l dX12_side_12 ?_
  refine rw_iload dX12_side_13 5 rfl ?_
  refine rw_iload_n dX12_side_15 1 rfl rfl ?_
  refine rw_isub dX12_side_16 ?_
  refine rw_i2l dX12_side_17 ?_
  obtain ⟨q1, hq1, hf⟩ := bnd hf
  refine kS_J (ad := ad) (As := [.long ((a2 - a0).toInt64), .long ((a3 - a1).toInt64), .long ((a4 - a0).toInt64), .long ((a5 - a1).toInt64)]) (st := []) dX12_side_18 calX12_cross wm1671 wm1672 rfl rfl (Nat.le_of_ble_eq_true rfl) ⟨⟨by decide, by decide⟩, by decide, by decide⟩ (cmX12_cross hr hq1) (fun h hr => ?_)
  refine nmJ hf (fun x2 hf => ?_)
  refine rw_lstore (lv2 := [(6, .long x2), (0, .int a0), (1, .int a1), (2, .int a2), (3, .int a3), (4, .int a4), (5, .int a5)]) dX12_side_21 (by decide) rfl ?_
  refine rw_lload dX12_side_23 0 rfl ?_
  refine rw_lconst (v := 0) dX12_side_25 (by decide) ?_
  refine rw_lcmp dX12_side_26 ?_
  refine rw_if_le (tgt := 34) dX12_side_27 (by decide) (fun c3 => ?_) (fun c3 => ?_)
  · rw [if_pos c3] at hf
    refine rw_lload dX12_side_34 0 rfl ?_
    refine rw_lconst (v := 0) dX12_side_36 (by decide) ?_
    refine rw_lcmp dX12_side_37 ?_
    refine rw_if_ge (tgt := 45) dX12_side_38 (by decide) (fun c4 => ?_) (fun c4 => ?_)
    · rw [if_pos c4] at hf
      refine rw_iconst (v := 0) dX12_side_45 (by decide) ?_
      refine rw_sub [] rfl ?_
      exact t_jX12_side_46 (ad := ad) (G := G)  0 q1.2 _ hr hf
    · rw [if_neg c4] at hf
      refine rw_iconst (v := (-1)) dX12_side_41 (by decide) ?_
      refine rw_goto (tgt := 46) dX12_side_42 (by decide) ?_
      refine rw_sub [] rfl ?_
      exact t_jX12_side_46 (ad := ad) (G := G)  ((-1)) q1.2 _ hr hf
  · rw [if_neg c3] at hf
    refine rw_iconst (v := 1) dX12_side_30 (by decide) ?_
    refine rw_goto (tgt := 46) dX12_side_31 (by decide) ?_
    refine rw_sub [] rfl ?_
    exact t_jX12_side_46 (ad := ad) (G := G)  1 q1.2 _ hr hf
def jX12_isBetween_33  (s0 : Int32) (σ : rS) : Option (Int32 × rS) := if s0 = 0 ∨ s0 = 1 then some (s0, σ) else none
set_option maxHeartbeats 4000000 in
theorem t_jX12_isBetween_33 {G : rG} {ad : Nat → Nat} {o : (Int32 × rS)}   (s0 : Int32) (σ : rS) (h : rH) (hr : Rep G ad σ h) (hf : jX12_isBetween_33  s0 σ = some o) : RW G mX12_isBetween (rm 0 0 0) (qI G ad o) xN 0 0 33 [] [.int s0] h := by
  unfold jX12_isBetween_33 at hf
  obtain ⟨hz4, hf⟩ := grd hf
  replace hf := Option.some.inj hf
  subst hf
  exact rw_zreturn dX12_isBetween_33 rfl (nar_z hz4) ⟨rfl, hr⟩ (by decide) (by decide)
def jX12_isBetween_32   (σ : rS) : Option (Int32 × rS) := jX12_isBetween_33 0 σ
set_option maxHeartbeats 4000000 in
theorem t_jX12_isBetween_32 {G : rG} {ad : Nat → Nat} {o : (Int32 × rS)}    (σ : rS) (h : rH) (hr : Rep G ad σ h) (hf : jX12_isBetween_32   σ = some o) : RW G mX12_isBetween (rm 0 0 0) (qI G ad o) xN 0 0 32 [] [] h := by
  unfold jX12_isBetween_32 at hf
  refine rw_iconst (v := 0) dX12_isBetween_32 (by decide) ?_
  exact t_jX12_isBetween_33 (ad := ad) (G := G)  0 σ _ hr hf
def jX12_isBetween_25  (s0 : Int32) (s1 : Int32) (σ : rS) : Option (Int32 × rS) := if s0 < s1 then jX12_isBetween_32 σ else jX12_isBetween_33 1 σ
set_option maxHeartbeats 4000000 in
theorem t_jX12_isBetween_25 {G : rG} {ad : Nat → Nat} {o : (Int32 × rS)}   (s0 : Int32) (s1 : Int32) (σ : rS) (h : rH) (hr : Rep G ad σ h) (hf : jX12_isBetween_25  s0 s1 σ = some o) : RW G mX12_isBetween (rm 0 0 0) (qI G ad o) xN 0 0 25 [] [.int s0, .int s1] h := by
  unfold jX12_isBetween_25 at hf
  refine rw_icmp_gt (tgt := 32) dX12_isBetween_25 (by decide) (fun c5 => ?_) (fun c5 => ?_)
  · rw [if_pos c5] at hf
    exact t_jX12_isBetween_32 (ad := ad) (G := G)  σ _ hr hf
  · rw [if_neg c5] at hf
    refine rw_iconst (v := 1) dX12_isBetween_28 (by decide) ?_
    refine rw_goto (tgt := 33) dX12_isBetween_29 (by decide) ?_
    exact t_jX12_isBetween_33 (ad := ad) (G := G)  1 σ _ hr hf
def jX12_isBetween_11  (v0 : Int32) (v1 : Int32) (v2 : Int32) (s0 : Int32) (s1 : Int32) (σ : rS) : Option (Int32 × rS) := if s1 < s0 then jX12_isBetween_32 σ else if v2 ≤ v1 then jX12_isBetween_25 v1 v0 σ else jX12_isBetween_25 v2 v0 σ
set_option maxHeartbeats 4000000 in
theorem t_jX12_isBetween_11 {G : rG} {ad : Nat → Nat} {o : (Int32 × rS)}   (v0 : Int32) (v1 : Int32) (v2 : Int32) (s0 : Int32) (s1 : Int32) (σ : rS) (h : rH) (hr : Rep G ad σ h) (hf : jX12_isBetween_11  v0 v1 v2 s0 s1 σ = some o) : RW G mX12_isBetween (rm 0 0 0) (qI G ad o) xN 0 0 11 [(0, .int v0), (1, .int v1), (2, .int v2)] [.int s0, .int s1] h := by
  unfold jX12_isBetween_11 at hf
  refine rw_icmp_lt (tgt := 32) dX12_isBetween_11 (by decide) (fun c2 => ?_) (fun c2 => ?_)
  · rw [if_pos c2] at hf
    refine rw_sub [] rfl ?_
    exact t_jX12_isBetween_32 (ad := ad) (G := G)  σ _ hr hf
  · rw [if_neg c2] at hf
    refine rw_iload_n dX12_isBetween_14 0 rfl rfl ?_
    refine rw_iload_n dX12_isBetween_15 1 rfl rfl ?_
    refine rw_iload_n dX12_isBetween_16 2 rfl rfl ?_
    refine rw_icmp_ge (tgt := 24) dX12_isBetween_17 (by decide) (fun c3 => ?_) (fun c3 => ?_)
    · rw [if_pos c3] at hf
      refine rw_iload_n dX12_isBetween_24 1 rfl rfl ?_
      refine rw_sub [] rfl ?_
      exact t_jX12_isBetween_25 (ad := ad) (G := G)  v1 v0 σ _ hr hf
    · rw [if_neg c3] at hf
      refine rw_iload_n dX12_isBetween_20 2 rfl rfl ?_
      refine rw_goto (tgt := 25) dX12_isBetween_21 (by decide) ?_
      refine rw_sub [] rfl ?_
      exact t_jX12_isBetween_25 (ad := ad) (G := G)  v2 v0 σ _ hr hf
def fX12_isBetween (a0 : Int32) (a1 : Int32) (a2 : Int32) (σ : rS) : Option (Int32 × rS) := if a2 ≤ a1 then jX12_isBetween_11 a0 a1 a2 a2 a0 σ else jX12_isBetween_11 a0 a1 a2 a1 a0 σ
set_option maxHeartbeats 4000000 in
theorem cmX12_isBetween {G : rG} {ad : Nat → Nat} {a0 : Int32} {a1 : Int32} {a2 : Int32} {σ : rS} {h : rH} {o : (Int32 × rS)} (hr : Rep G ad σ h) (hf : fX12_isBetween a0 a1 a2 σ = some o) : rMT G mX12_isBetween (rm 0 0 0) [.int a0, .int a1, .int a2] h (qI G ad o) xN := by
  unfold fX12_isBetween at hf
  refine rw_met (by decide +kernel) rfl (Nat.le_of_ble_eq_true rfl) ?_
  show RW G _ _ _ _ 0 0 0 [(0, .int a0), (1, .int a1), (2, .int a2)] [] h
  refine rw_iload_n dX12_isBetween_0 0 rfl rfl ?_
  refine rw_iload_n dX12_isBetween_1 1 rfl rfl ?_
  refine rw_iload_n dX12_isBetween_2 2 rfl rfl ?_
  refine rw_icmp_ge (tgt := 10) dX12_isBetween_3 (by decide) (fun c1 => ?_) (fun c1 => ?_)
  · rw [if_pos c1] at hf
    refine rw_iload_n dX12_isBetween_10 2 rfl rfl ?_
    exact t_jX12_isBetween_11 (ad := ad) (G := G)  a0 a1 a2 a2 a0 σ _ hr hf
  · rw [if_neg c1] at hf
    refine rw_iload_n dX12_isBetween_6 1 rfl rfl ?_
    refine rw_goto (tgt := 11) dX12_isBetween_7 (by decide) ?_
    exact t_jX12_isBetween_11 (ad := ad) (G := G)  a0 a1 a2 a1 a0 σ _ hr hf
def jX12_isOn_39  (s0 : Int32) (σ : rS) : Option (Int32 × rS) := if s0 = 0 ∨ s0 = 1 then some (s0, σ) else none
set_option maxHeartbeats 4000000 in
theorem t_jX12_isOn_39 {G : rG} {ad : Nat → Nat} {o : (Int32 × rS)}   (s0 : Int32) (σ : rS) (h : rH) (hr : Rep G ad σ h) (hf : jX12_isOn_39  s0 σ = some o) : RW G mX12_isOn (rm 2 0 0) (qI G ad o) xN 0 0 39 [] [.int s0] h := by
  unfold jX12_isOn_39 at hf
  obtain ⟨hz7, hf⟩ := grd hf
  replace hf := Option.some.inj hf
  subst hf
  exact rw_zreturn dX12_isOn_39 rfl (nar_z hz7) ⟨rfl, hr⟩ (by decide) (by decide)
def jX12_isOn_38   (σ : rS) : Option (Int32 × rS) := jX12_isOn_39 0 σ
set_option maxHeartbeats 4000000 in
theorem t_jX12_isOn_38 {G : rG} {ad : Nat → Nat} {o : (Int32 × rS)}    (σ : rS) (h : rH) (hr : Rep G ad σ h) (hf : jX12_isOn_38   σ = some o) : RW G mX12_isOn (rm 2 0 0) (qI G ad o) xN 0 0 38 [] [] h := by
  unfold jX12_isOn_38 at hf
  refine rw_iconst (v := 0) dX12_isOn_38 (by decide) ?_
  exact t_jX12_isOn_39 (ad := ad) (G := G)  0 σ _ hr hf
def fX12_isOn (a0 : Int32) (a1 : Int32) (a2 : Int32) (a3 : Int32) (a4 : Int32) (a5 : Int32) (σ : rS) : Option (Int32 × rS) := (fX12_side a0 a1 a2 a3 a4 a5 σ).bind fun q1 => if q1.1 = 0 then (fX12_isBetween a4 a0 a2 q1.2).bind fun q3 => if q3.1 = 0 then jX12_isOn_38 q3.2 else (fX12_isBetween a5 a1 a3 q3.2).bind fun q5 => if q5.1 = 0 then jX12_isOn_38 q5.2 else jX12_isOn_39 1 q5.2 else jX12_isOn_38 q1.2
set_option maxHeartbeats 4000000 in
theorem cmX12_isOn {G : rG} {ad : Nat → Nat} {a0 : Int32} {a1 : Int32} {a2 : Int32} {a3 : Int32} {a4 : Int32} {a5 : Int32} {σ : rS} {h : rH} {o : (Int32 × rS)} (hr : Rep G ad σ h) (hf : fX12_isOn a0 a1 a2 a3 a4 a5 σ = some o) : rMT G mX12_isOn (rm 2 0 0) [.int a0, .int a1, .int a2, .int a3, .int a4, .int a5] h (qI G ad o) xN := by
  unfold fX12_isOn at hf
  refine rw_met (by decide +kernel) rfl (Nat.le_of_ble_eq_true rfl) ?_
  show RW G _ _ _ _ 0 0 0 [(0, .int a0), (1, .int a1), (2, .int a2), (3, .int a3), (4, .int a4), (5, .int a5)] [] h
  refine rw_iload_n dX12_isOn_0 0 rfl rfl ?_
  refine rw_iload_n dX12_isOn_1 1 rfl rfl ?_
  refine rw_iload_n dX12_isOn_2 2 rfl rfl ?_
  refine rw_iload_n dX12_isOn_3 3 rfl rfl ?_
  refine rw_iload dX12_isOn_4 4 rfl ?_
  refine rw_iload dX12_isOn_6 5 rfl ?_
  obtain ⟨q1, hq1, hf⟩ := bnd hf
  refine kS_I (ad := ad) (As := [.int a0, .int a1, .int a2, .int a3, .int a4, .int a5]) (st := []) dX12_isOn_8 calX12_side wm1668 wm1669 rfl rfl (Nat.le_of_ble_eq_true rfl) ⟨⟨by decide, by decide⟩, by decide, by decide⟩ (cmX12_side hr hq1) (fun h hr => ?_)
  refine rw_if_ne (tgt := 38) dX12_isOn_11 (by decide) (fun c2 => ?_) (fun c2 => ?_)
  · rw [if_neg c2] at hf
    refine rw_sub [] rfl ?_
    exact t_jX12_isOn_38 (ad := ad) (G := G)  q1.2 _ hr hf
  · rw [if_pos c2] at hf
    refine rw_iload dX12_isOn_14 4 rfl ?_
    refine rw_iload_n dX12_isOn_16 0 rfl rfl ?_
    refine rw_iload_n dX12_isOn_17 2 rfl rfl ?_
    obtain ⟨q3, hq3, hf⟩ := bnd hf
    refine kS_I (ad := ad) (As := [.int a4, .int a0, .int a2]) (st := []) dX12_isOn_18 calX12_isBetween wm1674 wm1675 rfl rfl (Nat.le_of_ble_eq_true rfl) ⟨⟨by decide, by decide⟩, by decide, by decide⟩ (cmX12_isBetween hr hq3) (fun h hr => ?_)
    refine rw_if_eq (tgt := 38) dX12_isOn_21 (by decide) (fun c4 => ?_) (fun c4 => ?_)
    · rw [if_pos c4] at hf
      refine rw_sub [] rfl ?_
      exact t_jX12_isOn_38 (ad := ad) (G := G)  q3.2 _ hr hf
    · rw [if_neg c4] at hf
      refine rw_iload dX12_isOn_24 5 rfl ?_
      refine rw_iload_n dX12_isOn_26 1 rfl rfl ?_
      refine rw_iload_n dX12_isOn_27 3 rfl rfl ?_
      obtain ⟨q5, hq5, hf⟩ := bnd hf
      refine kS_I (ad := ad) (As := [.int a5, .int a1, .int a3]) (st := []) dX12_isOn_28 calX12_isBetween wm1674 wm1675 rfl rfl (Nat.le_of_ble_eq_true rfl) ⟨⟨by decide, by decide⟩, by decide, by decide⟩ (cmX12_isBetween hr hq5) (fun h hr => ?_)
      refine rw_if_eq (tgt := 38) dX12_isOn_31 (by decide) (fun c6 => ?_) (fun c6 => ?_)
      · rw [if_pos c6] at hf
        refine rw_sub [] rfl ?_
        exact t_jX12_isOn_38 (ad := ad) (G := G)  q5.2 _ hr hf
      · rw [if_neg c6] at hf
        refine rw_iconst (v := 1) dX12_isOn_34 (by decide) ?_
        refine rw_goto (tgt := 39) dX12_isOn_35 (by decide) ?_
        refine rw_sub [] rfl ?_
        exact t_jX12_isOn_39 (ad := ad) (G := G)  1 q5.2 _ hr hf
def jX12_meet_133  (s0 : Int32) (σ : rS) : Option (Int32 × rS) := if s0 = 0 ∨ s0 = 1 then some (s0, σ) else none
set_option maxHeartbeats 4000000 in
theorem t_jX12_meet_133 {G : rG} {ad : Nat → Nat} {o : (Int32 × rS)}   (s0 : Int32) (σ : rS) (h : rH) (hr : Rep G ad σ h) (hf : jX12_meet_133  s0 σ = some o) : RW G mX12_meet (rm 3 0 0) (qI G ad o) xN 0 0 133 [] [.int s0] h := by
  unfold jX12_meet_133 at hf
  obtain ⟨hz16, hf⟩ := grd hf
  replace hf := Option.some.inj hf
  subst hf
  exact rw_zreturn dX12_meet_133 rfl (nar_z hz16) ⟨rfl, hr⟩ (by decide) (by decide)
def jX12_meet_132   (σ : rS) : Option (Int32 × rS) := jX12_meet_133 0 σ
set_option maxHeartbeats 4000000 in
theorem t_jX12_meet_132 {G : rG} {ad : Nat → Nat} {o : (Int32 × rS)}    (σ : rS) (h : rH) (hr : Rep G ad σ h) (hf : jX12_meet_132   σ = some o) : RW G mX12_meet (rm 3 0 0) (qI G ad o) xN 0 0 132 [] [] h := by
  unfold jX12_meet_132 at hf
  refine rw_iconst (v := 0) dX12_meet_132 (by decide) ?_
  exact t_jX12_meet_133 (ad := ad) (G := G)  0 σ _ hr hf
def jX12_meet_128   (σ : rS) : Option (Int32 × rS) := jX12_meet_133 1 σ
set_option maxHeartbeats 4000000 in
theorem t_jX12_meet_128 {G : rG} {ad : Nat → Nat} {o : (Int32 × rS)}    (σ : rS) (h : rH) (hr : Rep G ad σ h) (hf : jX12_meet_128   σ = some o) : RW G mX12_meet (rm 3 0 0) (qI G ad o) xN 0 0 128 [] [] h := by
  unfold jX12_meet_128 at hf
  refine rw_iconst (v := 1) dX12_meet_128 (by decide) ?_
  refine rw_goto (tgt := 133) dX12_meet_129 (by decide) ?_
  exact t_jX12_meet_133 (ad := ad) (G := G)  1 σ _ hr hf
def jX12_meet_65  (v0 : Int32) (v1 : Int32) (v2 : Int32) (v3 : Int32) (v4 : Int32) (v5 : Int32) (v6 : Int32) (v7 : Int32) (s0 : Int32) (σ : rS) : Option (Int32 × rS) := if s0 = 0 then (fX12_side v0 v1 v2 v3 v4 v5 σ).bind fun q10 => (fX12_side v0 v1 v2 v3 v6 v7 q10.2).bind fun q11 => if 0 ≤ (q10.1 * q11.1) then jX12_meet_132 q11.2 else (fX12_side v4 v5 v6 v7 v0 v1 q11.2).bind fun q13 => (fX12_side v4 v5 v6 v7 v2 v3 q13.2).bind fun q14 => if 0 ≤ (q13.1 * q14.1) then jX12_meet_132 q14.2 else jX12_meet_128 q14.2 else jX12_meet_128 σ
set_option maxHeartbeats 4000000 in
theorem t_jX12_meet_65 {G : rG} {ad : Nat → Nat} {o : (Int32 × rS)}   (v0 : Int32) (v1 : Int32) (v2 : Int32) (v3 : Int32) (v4 : Int32) (v5 : Int32) (v6 : Int32) (v7 : Int32) (s0 : Int32) (σ : rS) (h : rH) (hr : Rep G ad σ h) (hf : jX12_meet_65  v0 v1 v2 v3 v4 v5 v6 v7 s0 σ = some o) : RW G mX12_meet (rm 3 0 0) (qI G ad o) xN 0 0 65 [(0, .int v0), (1, .int v1), (2, .int v2), (3, .int v3), (4, .int v4), (5, .int v5), (6, .int v6), (7, .int v7)] [.int s0] h := by
  unfold jX12_meet_65 at hf
  refine rw_istore (lv2 := [(8, .int s0), (0, .int v0), (1, .int v1), (2, .int v2), (3, .int v3), (4, .int v4), (5, .int v5), (6, .int v6), (7, .int v7)]) dX12_meet_65 (by decide) rfl ?_
  refine rw_iload dX12_meet_67 0 rfl ?_
  refine rw_if_ne (tgt := 128) dX12_meet_69 (by decide) (fun c9 => ?_) (fun c9 => ?_)
  · rw [if_neg c9] at hf
    refine rw_sub [] rfl ?_
    exact t_jX12_meet_128 (ad := ad) (G := G)  σ _ hr hf
  · rw [if_pos c9] at hf
    refine rw_iload_n dX12_meet_72 1 rfl rfl ?_
    refine rw_iload_n dX12_meet_73 2 rfl rfl ?_
    refine rw_iload_n dX12_meet_74 3 rfl rfl ?_
    refine rw_iload_n dX12_meet_75 4 rfl rfl ?_
    refine rw_iload dX12_meet_76 5 rfl ?_
    refine rw_iload dX12_meet_78 6 rfl ?_
    obtain ⟨q10, hq10, hf⟩ := bnd hf
    refine kS_I (ad := ad) (As := [.int v0, .int v1, .int v2, .int v3, .int v4, .int v5]) (st := []) dX12_meet_80 calX12_side wm1668 wm1669 rfl rfl (Nat.le_of_ble_eq_true rfl) ⟨⟨by decide, by decide⟩, by decide, by decide⟩ (cmX12_side hr hq10) (fun h hr => ?_)
    refine rw_iload_n dX12_meet_83 1 rfl rfl ?_
    refine rw_iload_n dX12_meet_84 2 rfl rfl ?_
    refine rw_iload_n dX12_meet_85 3 rfl rfl ?_
    refine rw_iload_n dX12_meet_86 4 rfl rfl ?_
    refine rw_iload dX12_meet_87 7 rfl ?_
    refine rw_iload dX12_meet_89 8 rfl ?_
    obtain ⟨q11, hq11, hf⟩ := bnd hf
    refine kS_I (ad := ad) (As := [.int v0, .int v1, .int v2, .int v3, .int v6, .int v7]) (st := [.int q10.1]) dX12_meet_91 calX12_side wm1668 wm1669 rfl rfl (Nat.le_of_ble_eq_true rfl) ⟨⟨by decide, by decide⟩, by decide, by decide⟩ (cmX12_side hr hq11) (fun h hr => ?_)
    refine rw_imul dX12_meet_94 ?_
    refine rw_if_ge (tgt := 132) dX12_meet_95 (by decide) (fun c12 => ?_) (fun c12 => ?_)
    · rw [if_pos c12] at hf
      refine rw_sub [] rfl ?_
      exact t_jX12_meet_132 (ad := ad) (G := G)  q11.2 _ hr hf
    · rw [if_neg c12] at hf
      refine rw_iload dX12_meet_98 5 rfl ?_
      refine rw_iload dX12_meet_100 6 rfl ?_
      refine rw_iload dX12_meet_102 7 rfl ?_
      refine rw_iload dX12_meet_104 8 rfl ?_
      refine rw_iload_n dX12_meet_106 1 rfl rfl ?_
      refine rw_iload_n dX12_meet_107 2 rfl rfl ?_
      obtain ⟨q13, hq13, hf⟩ := bnd hf
      refine kS_I (ad := ad) (As := [.int v4, .int v5, .int v6, .int v7, .int v0, .int v1]) (st := []) dX12_meet_108 calX12_side wm1668 wm1669 rfl rfl (Nat.le_of_ble_eq_true rfl) ⟨⟨by decide, by decide⟩, by decide, by decide⟩ (cmX12_side hr hq13) (fun h hr => ?_)
      refine rw_iload dX12_meet_111 5 rfl ?_
      refine rw_iload dX12_meet_113 6 rfl ?_
      refine rw_iload dX12_meet_115 7 rfl ?_
      refine rw_iload dX12_meet_117 8 rfl ?_
      refine rw_iload_n dX12_meet_119 3 rfl rfl ?_
      refine rw_iload_n dX12_meet_120 4 rfl rfl ?_
      obtain ⟨q14, hq14, hf⟩ := bnd hf
      refine kS_I (ad := ad) (As := [.int v4, .int v5, .int v6, .int v7, .int v2, .int v3]) (st := [.int q13.1]) dX12_meet_121 calX12_side wm1668 wm1669 rfl rfl (Nat.le_of_ble_eq_true rfl) ⟨⟨by decide, by decide⟩, by decide, by decide⟩ (cmX12_side hr hq14) (fun h hr => ?_)
      refine rw_imul dX12_meet_124 ?_
      refine rw_if_ge (tgt := 132) dX12_meet_125 (by decide) (fun c15 => ?_) (fun c15 => ?_)
      · rw [if_pos c15] at hf
        refine rw_sub [] rfl ?_
        exact t_jX12_meet_132 (ad := ad) (G := G)  q14.2 _ hr hf
      · rw [if_neg c15] at hf
        refine rw_sub [] rfl ?_
        exact t_jX12_meet_128 (ad := ad) (G := G)  q14.2 _ hr hf
def jX12_meet_60  (v0 : Int32) (v1 : Int32) (v2 : Int32) (v3 : Int32) (v4 : Int32) (v5 : Int32) (v6 : Int32) (v7 : Int32) (σ : rS) : Option (Int32 × rS) := jX12_meet_65 v0 v1 v2 v3 v4 v5 v6 v7 1 σ
set_option maxHeartbeats 4000000 in
theorem t_jX12_meet_60 {G : rG} {ad : Nat → Nat} {o : (Int32 × rS)}   (v0 : Int32) (v1 : Int32) (v2 : Int32) (v3 : Int32) (v4 : Int32) (v5 : Int32) (v6 : Int32) (v7 : Int32) (σ : rS) (h : rH) (hr : Rep G ad σ h) (hf : jX12_meet_60  v0 v1 v2 v3 v4 v5 v6 v7 σ = some o) : RW G mX12_meet (rm 3 0 0) (qI G ad o) xN 0 0 60 [(0, .int v0), (1, .int v1), (2, .int v2), (3, .int v3), (4, .int v4), (5, .int v5), (6, .int v6), (7, .int v7)] [] h := by
  unfold jX12_meet_60 at hf
  refine rw_iconst (v := 1) dX12_meet_60 (by decide) ?_
  refine rw_goto (tgt := 65) dX12_meet_61 (by decide) ?_
  exact t_jX12_meet_65 (ad := ad) (G := G)  v0 v1 v2 v3 v4 v5 v6 v7 1 σ _ hr hf
def fX12_meet (a0 : Int32) (a1 : Int32) (a2 : Int32) (a3 : Int32) (a4 : Int32) (a5 : Int32) (a6 : Int32) (a7 : Int32) (σ : rS) : Option (Int32 × rS) := (fX12_isOn a0 a1 a2 a3 a4 a5 σ).bind fun q1 => if q1.1 = 0 then (fX12_isOn a0 a1 a2 a3 a6 a7 q1.2).bind fun q3 => if q3.1 = 0 then (fX12_isOn a4 a5 a6 a7 a0 a1 q3.2).bind fun q5 => if q5.1 = 0 then (fX12_isOn a4 a5 a6 a7 a2 a3 q5.2).bind fun q7 => if q7.1 = 0 then jX12_meet_65 a0 a1 a2 a3 a4 a5 a6 a7 0 q7.2 else jX12_meet_60 a0 a1 a2 a3 a4 a5 a6 a7 q7.2 else jX12_meet_60 a0 a1 a2 a3 a4 a5 a6 a7 q5.2 else jX12_meet_60 a0 a1 a2 a3 a4 a5 a6 a7 q3.2 else jX12_meet_60 a0 a1 a2 a3 a4 a5 a6 a7 q1.2
set_option maxHeartbeats 4000000 in
theorem cmX12_meet {G : rG} {ad : Nat → Nat} {a0 : Int32} {a1 : Int32} {a2 : Int32} {a3 : Int32} {a4 : Int32} {a5 : Int32} {a6 : Int32} {a7 : Int32} {σ : rS} {h : rH} {o : (Int32 × rS)} (hr : Rep G ad σ h) (hf : fX12_meet a0 a1 a2 a3 a4 a5 a6 a7 σ = some o) : rMT G mX12_meet (rm 3 0 0) [.int a0, .int a1, .int a2, .int a3, .int a4, .int a5, .int a6, .int a7] h (qI G ad o) xN := by
  unfold fX12_meet at hf
  refine rw_met (by decide +kernel) rfl (Nat.le_of_ble_eq_true rfl) ?_
  show RW G _ _ _ _ 0 0 0 [(0, .int a0), (1, .int a1), (2, .int a2), (3, .int a3), (4, .int a4), (5, .int a5), (6, .int a6), (7, .int a7)] [] h
  refine rw_iload_n dX12_meet_0 0 rfl rfl ?_
  refine rw_iload_n dX12_meet_1 1 rfl rfl ?_
  refine rw_iload_n dX12_meet_2 2 rfl rfl ?_
  refine rw_iload_n dX12_meet_3 3 rfl rfl ?_
  refine rw_iload dX12_meet_4 4 rfl ?_
  refine rw_iload dX12_meet_6 5 rfl ?_
  obtain ⟨q1, hq1, hf⟩ := bnd hf
  refine kS_I (ad := ad) (As := [.int a0, .int a1, .int a2, .int a3, .int a4, .int a5]) (st := []) dX12_meet_8 calX12_isOn wm1665 wm1666 rfl rfl (Nat.le_of_ble_eq_true rfl) ⟨⟨by decide, by decide⟩, by decide, by decide⟩ (cmX12_isOn hr hq1) (fun h hr => ?_)
  refine rw_if_ne (tgt := 60) dX12_meet_11 (by decide) (fun c2 => ?_) (fun c2 => ?_)
  · rw [if_neg c2] at hf
    exact t_jX12_meet_60 (ad := ad) (G := G)  a0 a1 a2 a3 a4 a5 a6 a7 q1.2 _ hr hf
  · rw [if_pos c2] at hf
    refine rw_iload_n dX12_meet_14 0 rfl rfl ?_
    refine rw_iload_n dX12_meet_15 1 rfl rfl ?_
    refine rw_iload_n dX12_meet_16 2 rfl rfl ?_
    refine rw_iload_n dX12_meet_17 3 rfl rfl ?_
    refine rw_iload dX12_meet_18 6 rfl ?_
    refine rw_iload dX12_meet_20 7 rfl ?_
    obtain ⟨q3, hq3, hf⟩ := bnd hf
    refine kS_I (ad := ad) (As := [.int a0, .int a1, .int a2, .int a3, .int a6, .int a7]) (st := []) dX12_meet_22 calX12_isOn wm1665 wm1666 rfl rfl (Nat.le_of_ble_eq_true rfl) ⟨⟨by decide, by decide⟩, by decide, by decide⟩ (cmX12_isOn hr hq3) (fun h hr => ?_)
    refine rw_if_ne (tgt := 60) dX12_meet_25 (by decide) (fun c4 => ?_) (fun c4 => ?_)
    · rw [if_neg c4] at hf
      exact t_jX12_meet_60 (ad := ad) (G := G)  a0 a1 a2 a3 a4 a5 a6 a7 q3.2 _ hr hf
    · rw [if_pos c4] at hf
      refine rw_iload dX12_meet_28 4 rfl ?_
      refine rw_iload dX12_meet_30 5 rfl ?_
      refine rw_iload dX12_meet_32 6 rfl ?_
      refine rw_iload dX12_meet_34 7 rfl ?_
      refine rw_iload_n dX12_meet_36 0 rfl rfl ?_
      refine rw_iload_n dX12_meet_37 1 rfl rfl ?_
      obtain ⟨q5, hq5, hf⟩ := bnd hf
      refine kS_I (ad := ad) (As := [.int a4, .int a5, .int a6, .int a7, .int a0, .int a1]) (st := []) dX12_meet_38 calX12_isOn wm1665 wm1666 rfl rfl (Nat.le_of_ble_eq_true rfl) ⟨⟨by decide, by decide⟩, by decide, by decide⟩ (cmX12_isOn hr hq5) (fun h hr => ?_)
      refine rw_if_ne (tgt := 60) dX12_meet_41 (by decide) (fun c6 => ?_) (fun c6 => ?_)
      · rw [if_neg c6] at hf
        exact t_jX12_meet_60 (ad := ad) (G := G)  a0 a1 a2 a3 a4 a5 a6 a7 q5.2 _ hr hf
      · rw [if_pos c6] at hf
        refine rw_iload dX12_meet_44 4 rfl ?_
        refine rw_iload dX12_meet_46 5 rfl ?_
        refine rw_iload dX12_meet_48 6 rfl ?_
        refine rw_iload dX12_meet_50 7 rfl ?_
        refine rw_iload_n dX12_meet_52 2 rfl rfl ?_
        refine rw_iload_n dX12_meet_53 3 rfl rfl ?_
        obtain ⟨q7, hq7, hf⟩ := bnd hf
        refine kS_I (ad := ad) (As := [.int a4, .int a5, .int a6, .int a7, .int a2, .int a3]) (st := []) dX12_meet_54 calX12_isOn wm1665 wm1666 rfl rfl (Nat.le_of_ble_eq_true rfl) ⟨⟨by decide, by decide⟩, by decide, by decide⟩ (cmX12_isOn hr hq7) (fun h hr => ?_)
        refine rw_if_eq (tgt := 64) dX12_meet_57 (by decide) (fun c8 => ?_) (fun c8 => ?_)
        · rw [if_pos c8] at hf
          refine rw_iconst (v := 0) dX12_meet_64 (by decide) ?_
          exact t_jX12_meet_65 (ad := ad) (G := G)  a0 a1 a2 a3 a4 a5 a6 a7 0 q7.2 _ hr hf
        · rw [if_neg c8] at hf
          exact t_jX12_meet_60 (ad := ad) (G := G)  a0 a1 a2 a3 a4 a5 a6 a7 q7.2 _ hr hf
def fX12_square (a0 : Int32) (a1 : Int32) (σ : rS) : Option (Int32 × rS) := if inB a0 16 then if inB a1 16 then if inB a0 16 then if inB a1 16 then if inB a0 16 then if inB a1 16 then if inB a0 16 then if inB a1 16 then some (((((σ.2.2.1 44 a0.toNatClampNeg) - (σ.2.2.1 44 a1.toNatClampNeg)) * ((σ.2.2.1 44 a0.toNatClampNeg) - (σ.2.2.1 44 a1.toNatClampNeg))) + (((σ.2.2.1 45 a0.toNatClampNeg) - (σ.2.2.1 45 a1.toNatClampNeg)) * ((σ.2.2.1 45 a0.toNatClampNeg) - (σ.2.2.1 45 a1.toNatClampNeg)))), σ) else none else none else none else none else none else none else none else none
set_option maxHeartbeats 4000000 in
theorem cmX12_square {G : rG} {ad : Nat → Nat} {a0 : Int32} {a1 : Int32} {σ : rS} {h : rH} {o : (Int32 × rS)} (hr : Rep G ad σ h) (hf : fX12_square a0 a1 σ = some o) : rMT G mX12_square (rm 0 0 0) [.ref (ad 43), .int a0, .int a1] h (qI G ad o) xN := by
  unfold fX12_square at hf
  refine rw_met (by decide +kernel) rfl (Nat.le_of_ble_eq_true rfl) ?_
  show RW G _ _ _ _ 0 0 0 [(0, .ref (ad 43)), (1, .int a0), (2, .int a1)] [] h
  refine rw_aload_n dX12_square_0 0 rfl rfl ?_
  refine sg_43_3 hr dX12_square_1 fl1465 ?_
  refine rw_iload_n dX12_square_4 1 rfl rfl ?_
  obtain ⟨hi1, hf⟩ := grd hf
  refine sl_44 hr dX12_square_5 (inB_in hi1) ?_
  refine rw_aload_n dX12_square_6 0 rfl rfl ?_
  refine sg_43_3 hr dX12_square_7 fl1465 ?_
  refine rw_iload_n dX12_square_10 2 rfl rfl ?_
  obtain ⟨hi2, hf⟩ := grd hf
  refine sl_44 hr dX12_square_11 (inB_in hi2) ?_
  refine rw_isub dX12_square_12 ?_
  refine rw_aload_n dX12_square_13 0 rfl rfl ?_
  refine sg_43_3 hr dX12_square_14 fl1465 ?_
  refine rw_iload_n dX12_square_17 1 rfl rfl ?_
  obtain ⟨hi3, hf⟩ := grd hf
  refine sl_44 hr dX12_square_18 (inB_in hi3) ?_
  refine rw_aload_n dX12_square_19 0 rfl rfl ?_
  refine sg_43_3 hr dX12_square_20 fl1465 ?_
  refine rw_iload_n dX12_square_23 2 rfl rfl ?_
  obtain ⟨hi4, hf⟩ := grd hf
  refine sl_44 hr dX12_square_24 (inB_in hi4) ?_
  refine rw_isub dX12_square_25 ?_
  refine rw_imul dX12_square_26 ?_
  refine rw_aload_n dX12_square_27 0 rfl rfl ?_
  refine sg_43_4 hr dX12_square_28 fl1466 ?_
  refine rw_iload_n dX12_square_31 1 rfl rfl ?_
  obtain ⟨hi5, hf⟩ := grd hf
  refine sl_45 hr dX12_square_32 (inB_in hi5) ?_
  refine rw_aload_n dX12_square_33 0 rfl rfl ?_
  refine sg_43_4 hr dX12_square_34 fl1466 ?_
  refine rw_iload_n dX12_square_37 2 rfl rfl ?_
  obtain ⟨hi6, hf⟩ := grd hf
  refine sl_45 hr dX12_square_38 (inB_in hi6) ?_
  refine rw_isub dX12_square_39 ?_
  refine rw_aload_n dX12_square_40 0 rfl rfl ?_
  refine sg_43_4 hr dX12_square_41 fl1466 ?_
  refine rw_iload_n dX12_square_44 1 rfl rfl ?_
  obtain ⟨hi7, hf⟩ := grd hf
  refine sl_45 hr dX12_square_45 (inB_in hi7) ?_
  refine rw_aload_n dX12_square_46 0 rfl rfl ?_
  refine sg_43_4 hr dX12_square_47 fl1466 ?_
  refine rw_iload_n dX12_square_50 2 rfl rfl ?_
  obtain ⟨hi8, hf⟩ := grd hf
  refine sl_45 hr dX12_square_51 (inB_in hi8) ?_
  refine rw_isub dX12_square_52 ?_
  refine rw_imul dX12_square_53 ?_
  refine rw_iadd dX12_square_54 ?_
  replace hf := Option.some.inj hf
  subst hf
  exact rw_ireturn dX12_square_55 rfl ⟨rfl, hr⟩ (by decide) (by decide)
def jX12_isFree_219 (k89 : Int32 → Int32 → Int32 → Int32 → rS → Option (Int32 × rS)) (v1 : Int32) (v2 : Int32) (v4 : Int32) (s0 : Int32) (σ : rS) : Option (Int32 × rS) := vI (v4 + 1) fun x35 => k89 v1 v2 s0 x35 σ
set_option maxHeartbeats 4000000 in
theorem t_jX12_isFree_219 {G : rG} {ad : Nat → Nat} {o : (Int32 × rS)} (k89 : Int32 → Int32 → Int32 → Int32 → rS → Option (Int32 × rS)) (hk89 : ∀ (v1 : Int32) (v2 : Int32) (v3 : Int32) (v4 : Int32) (σ : rS) (h : rH), Rep G ad σ h → k89 v1 v2 v3 v4 σ = some o → RW G mX12_isFree (rm 4 0 0) (qI G ad o) xN 0 0 89 [(0, .ref (ad 43)), (1, .int v1), (2, .int v2), (3, .int v3), (4, .int v4)] [] h) (v1 : Int32) (v2 : Int32) (v4 : Int32) (s0 : Int32) (σ : rS) (h : rH) (hr : Rep G ad σ h) (hf : jX12_isFree_219 k89 v1 v2 v4 s0 σ = some o) : RW G mX12_isFree (rm 4 0 0) (qI G ad o) xN 0 0 219 [(0, .ref (ad 43)), (1, .int v1), (2, .int v2), (4, .int v4)] [.int s0] h := by
  unfold jX12_isFree_219 at hf
  refine rw_istore_n (lv2 := [(3, .int s0), (0, .ref (ad 43)), (1, .int v1), (2, .int v2), (4, .int v4)]) dX12_isFree_219 rfl (by decide) rfl ?_
  refine rw_iinc (v := v4 + 1) (lv2 := [(4, .int (v4 + 1)), (3, .int s0), (0, .ref (ad 43)), (1, .int v1), (2, .int v2)]) dX12_isFree_220 4 rfl rfl (by decide) rfl ?_
  refine nmL hf (fun x35 hf => ?_)
  refine rw_goto (tgt := 89) dX12_isFree_223 (by decide) ?_
  refine rw_sub [2, 3, 4, 1, 0] rfl ?_
  exact hk89 v1 v2 s0 x35 σ _ hr hf
def jX12_isFree_218 (k89 : Int32 → Int32 → Int32 → Int32 → rS → Option (Int32 × rS)) (v1 : Int32) (v2 : Int32) (v4 : Int32) (σ : rS) : Option (Int32 × rS) := jX12_isFree_219 k89 v1 v2 v4 0 σ
set_option maxHeartbeats 4000000 in
theorem t_jX12_isFree_218 {G : rG} {ad : Nat → Nat} {o : (Int32 × rS)} (k89 : Int32 → Int32 → Int32 → Int32 → rS → Option (Int32 × rS)) (hk89 : ∀ (v1 : Int32) (v2 : Int32) (v3 : Int32) (v4 : Int32) (σ : rS) (h : rH), Rep G ad σ h → k89 v1 v2 v3 v4 σ = some o → RW G mX12_isFree (rm 4 0 0) (qI G ad o) xN 0 0 89 [(0, .ref (ad 43)), (1, .int v1), (2, .int v2), (3, .int v3), (4, .int v4)] [] h) (v1 : Int32) (v2 : Int32) (v4 : Int32) (σ : rS) (h : rH) (hr : Rep G ad σ h) (hf : jX12_isFree_218 k89 v1 v2 v4 σ = some o) : RW G mX12_isFree (rm 4 0 0) (qI G ad o) xN 0 0 218 [(0, .ref (ad 43)), (1, .int v1), (2, .int v2), (4, .int v4)] [] h := by
  unfold jX12_isFree_218 at hf
  refine rw_iconst (v := 0) dX12_isFree_218 (by decide) ?_
  exact t_jX12_isFree_219 (ad := ad) (G := G) k89 hk89 v1 v2 v4 0 σ _ hr hf
def jX12_isFree_214 (k89 : Int32 → Int32 → Int32 → Int32 → rS → Option (Int32 × rS)) (v1 : Int32) (v2 : Int32) (v4 : Int32) (σ : rS) : Option (Int32 × rS) := jX12_isFree_219 k89 v1 v2 v4 1 σ
set_option maxHeartbeats 4000000 in
theorem t_jX12_isFree_214 {G : rG} {ad : Nat → Nat} {o : (Int32 × rS)} (k89 : Int32 → Int32 → Int32 → Int32 → rS → Option (Int32 × rS)) (hk89 : ∀ (v1 : Int32) (v2 : Int32) (v3 : Int32) (v4 : Int32) (σ : rS) (h : rH), Rep G ad σ h → k89 v1 v2 v3 v4 σ = some o → RW G mX12_isFree (rm 4 0 0) (qI G ad o) xN 0 0 89 [(0, .ref (ad 43)), (1, .int v1), (2, .int v2), (3, .int v3), (4, .int v4)] [] h) (v1 : Int32) (v2 : Int32) (v4 : Int32) (σ : rS) (h : rH) (hr : Rep G ad σ h) (hf : jX12_isFree_214 k89 v1 v2 v4 σ = some o) : RW G mX12_isFree (rm 4 0 0) (qI G ad o) xN 0 0 214 [(0, .ref (ad 43)), (1, .int v1), (2, .int v2), (4, .int v4)] [] h := by
  unfold jX12_isFree_214 at hf
  refine rw_iconst (v := 1) dX12_isFree_214 (by decide) ?_
  refine rw_goto (tgt := 219) dX12_isFree_215 (by decide) ?_
  exact t_jX12_isFree_219 (ad := ad) (G := G) k89 hk89 v1 v2 v4 1 σ _ hr hf
def jX12_isFree_145 (k89 : Int32 → Int32 → Int32 → Int32 → rS → Option (Int32 × rS)) (v1 : Int32) (v2 : Int32) (v3 : Int32) (v4 : Int32) (v5 : Int32) (v6 : Int32) (s0 : Int32) (σ : rS) : Option (Int32 × rS) := if v3 = 0 then jX12_isFree_218 k89 v1 v2 v4 σ else if s0 = 0 then if inB v1 16 then if inB v1 16 then if inB v2 16 then if inB v2 16 then if inB v5 16 then if inB v5 16 then if inB v6 16 then if inB v6 16 then (fX12_meet (σ.2.2.1 44 v1.toNatClampNeg) (σ.2.2.1 45 v1.toNatClampNeg) (σ.2.2.1 44 v2.toNatClampNeg) (σ.2.2.1 45 v2.toNatClampNeg) (σ.2.2.1 44 v5.toNatClampNeg) (σ.2.2.1 45 v5.toNatClampNeg) (σ.2.2.1 44 v6.toNatClampNeg) (σ.2.2.1 45 v6.toNatClampNeg) σ).bind fun q33 => (if q33.1 = 0 then jX12_isFree_214 k89 v1 v2 v4 q33.2 else jX12_isFree_218 k89 v1 v2 v4 q33.2) else none else none else none else none else none else none else none else none else jX12_isFree_214 k89 v1 v2 v4 σ
set_option maxHeartbeats 4000000 in
theorem t_jX12_isFree_145 {G : rG} {ad : Nat → Nat} {o : (Int32 × rS)} (k89 : Int32 → Int32 → Int32 → Int32 → rS → Option (Int32 × rS)) (hk89 : ∀ (v1 : Int32) (v2 : Int32) (v3 : Int32) (v4 : Int32) (σ : rS) (h : rH), Rep G ad σ h → k89 v1 v2 v3 v4 σ = some o → RW G mX12_isFree (rm 4 0 0) (qI G ad o) xN 0 0 89 [(0, .ref (ad 43)), (1, .int v1), (2, .int v2), (3, .int v3), (4, .int v4)] [] h) (v1 : Int32) (v2 : Int32) (v3 : Int32) (v4 : Int32) (v5 : Int32) (v6 : Int32) (s0 : Int32) (σ : rS) (h : rH) (hr : Rep G ad σ h) (hf : jX12_isFree_145 k89 v1 v2 v3 v4 v5 v6 s0 σ = some o) : RW G mX12_isFree (rm 4 0 0) (qI G ad o) xN 0 0 145 [(0, .ref (ad 43)), (1, .int v1), (2, .int v2), (3, .int v3), (4, .int v4), (5, .int v5), (6, .int v6)] [.int s0] h := by
  unfold jX12_isFree_145 at hf
  refine rw_istore (lv2 := [(7, .int s0), (0, .ref (ad 43)), (1, .int v1), (2, .int v2), (3, .int v3), (4, .int v4), (5, .int v5), (6, .int v6)]) dX12_isFree_145 (by decide) rfl ?_
  refine rw_iload_n dX12_isFree_147 4 rfl rfl ?_
  refine rw_if_eq (tgt := 218) dX12_isFree_148 (by decide) (fun c23 => ?_) (fun c23 => ?_)
  · rw [if_pos c23] at hf
    refine rw_sub [1, 2, 3, 5] rfl ?_
    exact t_jX12_isFree_218 (ad := ad) (G := G) k89 hk89 v1 v2 v4 σ _ hr hf
  · rw [if_neg c23] at hf
    refine rw_iload dX12_isFree_151 0 rfl ?_
    refine rw_if_ne (tgt := 214) dX12_isFree_153 (by decide) (fun c24 => ?_) (fun c24 => ?_)
    · rw [if_neg c24] at hf
      refine rw_sub [1, 2, 3, 5] rfl ?_
      exact t_jX12_isFree_214 (ad := ad) (G := G) k89 hk89 v1 v2 v4 σ _ hr hf
    · rw [if_pos c24] at hf
      refine rw_aload_n dX12_isFree_156 1 rfl rfl ?_
      refine sg_43_3 hr dX12_isFree_157 fl1465 ?_
      refine rw_iload_n dX12_isFree_160 2 rfl rfl ?_
      obtain ⟨hi25, hf⟩ := grd hf
      refine sl_44 hr dX12_isFree_161 (inB_in hi25) ?_
      refine rw_aload_n dX12_isFree_162 1 rfl rfl ?_
      refine sg_43_4 hr dX12_isFree_163 fl1466 ?_
      refine rw_iload_n dX12_isFree_166 2 rfl rfl ?_
      obtain ⟨hi26, hf⟩ := grd hf
      refine sl_45 hr dX12_isFree_167 (inB_in hi26) ?_
      refine rw_aload_n dX12_isFree_168 1 rfl rfl ?_
      refine sg_43_3 hr dX12_isFree_169 fl1465 ?_
      refine rw_iload_n dX12_isFree_172 3 rfl rfl ?_
      obtain ⟨hi27, hf⟩ := grd hf
      refine sl_44 hr dX12_isFree_173 (inB_in hi27) ?_
      refine rw_aload_n dX12_isFree_174 1 rfl rfl ?_
      refine sg_43_4 hr dX12_isFree_175 fl1466 ?_
      refine rw_iload_n dX12_isFree_178 3 rfl rfl ?_
      obtain ⟨hi28, hf⟩ := grd hf
      refine sl_45 hr dX12_isFree_179 (inB_in hi28) ?_
      refine rw_aload_n dX12_isFree_180 1 rfl rfl ?_
      refine sg_43_3 hr dX12_isFree_181 fl1465 ?_
      refine rw_iload dX12_isFree_184 6 rfl ?_
      obtain ⟨hi29, hf⟩ := grd hf
      refine sl_44 hr dX12_isFree_186 (inB_in hi29) ?_
      refine rw_aload_n dX12_isFree_187 1 rfl rfl ?_
      refine sg_43_4 hr dX12_isFree_188 fl1466 ?_
      refine rw_iload dX12_isFree_191 6 rfl ?_
      obtain ⟨hi30, hf⟩ := grd hf
      refine sl_45 hr dX12_isFree_193 (inB_in hi30) ?_
      refine rw_aload_n dX12_isFree_194 1 rfl rfl ?_
      refine sg_43_3 hr dX12_isFree_195 fl1465 ?_
      refine rw_iload dX12_isFree_198 7 rfl ?_
      obtain ⟨hi31, hf⟩ := grd hf
      refine sl_44 hr dX12_isFree_200 (inB_in hi31) ?_
      refine rw_aload_n dX12_isFree_201 1 rfl rfl ?_
      refine sg_43_4 hr dX12_isFree_202 fl1466 ?_
      refine rw_iload dX12_isFree_205 7 rfl ?_
      obtain ⟨hi32, hf⟩ := grd hf
      refine sl_45 hr dX12_isFree_207 (inB_in hi32) ?_
      obtain ⟨q33, hq33, hf⟩ := bnd hf
      refine kS_I (ad := ad) (As := [.int (σ.2.2.1 44 v1.toNatClampNeg), .int (σ.2.2.1 45 v1.toNatClampNeg), .int (σ.2.2.1 44 v2.toNatClampNeg), .int (σ.2.2.1 45 v2.toNatClampNeg), .int (σ.2.2.1 44 v5.toNatClampNeg), .int (σ.2.2.1 45 v5.toNatClampNeg), .int (σ.2.2.1 44 v6.toNatClampNeg), .int (σ.2.2.1 45 v6.toNatClampNeg)]) (st := []) dX12_isFree_208 calX12_meet wm1677 wm1678 rfl rfl (Nat.le_of_ble_eq_true rfl) ⟨⟨by decide, by decide⟩, by decide, by decide⟩ (cmX12_meet hr hq33) (fun h hr => ?_)
      refine rw_if_ne (tgt := 218) dX12_isFree_211 (by decide) (fun c34 => ?_) (fun c34 => ?_)
      · rw [if_neg c34] at hf
        refine rw_sub [1, 2, 3, 5] rfl ?_
        exact t_jX12_isFree_218 (ad := ad) (G := G) k89 hk89 v1 v2 v4 q33.2 _ hr hf
      · rw [if_pos c34] at hf
        refine rw_sub [1, 2, 3, 5] rfl ?_
        exact t_jX12_isFree_214 (ad := ad) (G := G) k89 hk89 v1 v2 v4 q33.2 _ hr hf
def jX12_isFree_140 (k89 : Int32 → Int32 → Int32 → Int32 → rS → Option (Int32 × rS)) (v1 : Int32) (v2 : Int32) (v3 : Int32) (v4 : Int32) (v5 : Int32) (v6 : Int32) (σ : rS) : Option (Int32 × rS) := jX12_isFree_145 k89 v1 v2 v3 v4 v5 v6 1 σ
set_option maxHeartbeats 4000000 in
theorem t_jX12_isFree_140 {G : rG} {ad : Nat → Nat} {o : (Int32 × rS)} (k89 : Int32 → Int32 → Int32 → Int32 → rS → Option (Int32 × rS)) (hk89 : ∀ (v1 : Int32) (v2 : Int32) (v3 : Int32) (v4 : Int32) (σ : rS) (h : rH), Rep G ad σ h → k89 v1 v2 v3 v4 σ = some o → RW G mX12_isFree (rm 4 0 0) (qI G ad o) xN 0 0 89 [(0, .ref (ad 43)), (1, .int v1), (2, .int v2), (3, .int v3), (4, .int v4)] [] h) (v1 : Int32) (v2 : Int32) (v3 : Int32) (v4 : Int32) (v5 : Int32) (v6 : Int32) (σ : rS) (h : rH) (hr : Rep G ad σ h) (hf : jX12_isFree_140 k89 v1 v2 v3 v4 v5 v6 σ = some o) : RW G mX12_isFree (rm 4 0 0) (qI G ad o) xN 0 0 140 [(0, .ref (ad 43)), (1, .int v1), (2, .int v2), (3, .int v3), (4, .int v4), (5, .int v5), (6, .int v6)] [] h := by
  unfold jX12_isFree_140 at hf
  refine rw_iconst (v := 1) dX12_isFree_140 (by decide) ?_
  refine rw_goto (tgt := 145) dX12_isFree_141 (by decide) ?_
  exact t_jX12_isFree_145 (ad := ad) (G := G) k89 hk89 v1 v2 v3 v4 v5 v6 1 σ _ hr hf
def lX12_isFree_89  : Nat → Int32 → Int32 → Int32 → Int32 → rS → Option (Int32 × rS)
  | 0, _, _, _, _, _ => none
  | n + 1, v1, v2, v3, v4, σ => if (σ.1 43 16) ≤ v4 then if v3 = 0 ∨ v3 = 1 then some (v3, σ) else none else if inB v4 120 then vI (σ.2.2.1 53 v4.toNatClampNeg) fun x16 => if inB v4 120 then vI (σ.2.2.1 54 v4.toNatClampNeg) fun x18 => (if v1 = x16 then jX12_isFree_140 (lX12_isFree_89 n) v1 v2 v3 v4 x16 x18 σ else if v1 = x18 then jX12_isFree_140 (lX12_isFree_89 n) v1 v2 v3 v4 x16 x18 σ else if v2 = x16 then jX12_isFree_140 (lX12_isFree_89 n) v1 v2 v3 v4 x16 x18 σ else if v2 = x18 then jX12_isFree_140 (lX12_isFree_89 n) v1 v2 v3 v4 x16 x18 σ else jX12_isFree_145 (lX12_isFree_89 n) v1 v2 v3 v4 x16 x18 0 σ) else none else none
set_option maxHeartbeats 4000000 in
theorem t_lX12_isFree_89 {G : rG} {ad : Nat → Nat} {o : (Int32 × rS)}   : ∀ (n : Nat) (v1 : Int32) (v2 : Int32) (v3 : Int32) (v4 : Int32) (σ : rS) (h : rH), Rep G ad σ h → lX12_isFree_89  n v1 v2 v3 v4 σ = some o → RW G mX12_isFree (rm 4 0 0) (qI G ad o) xN 0 0 89 [(0, .ref (ad 43)), (1, .int v1), (2, .int v2), (3, .int v3), (4, .int v4)] [] h := by
  intro n
  induction n with
  | zero =>
    intro v1 v2 v3 v4 σ h hr hf
    rw [lX12_isFree_89] at hf
    cases hf
  | succ n ih =>
    intro v1 v2 v3 v4 σ h hr hf
    rw [lX12_isFree_89] at hf
    refine rw_iload dX12_isFree_89 4 rfl ?_
    refine rw_aload_n dX12_isFree_91 0 rfl rfl ?_
    refine sg_43_16 hr dX12_isFree_92 fl1478 ?_
    refine rw_icmp_ge (tgt := 226) dX12_isFree_95 (by decide) (fun c13 => ?_) (fun c13 => ?_)
    · rw [if_pos c13] at hf
      refine rw_iload_n dX12_isFree_226 3 rfl rfl ?_
      obtain ⟨hz14, hf⟩ := grd hf
      replace hf := Option.some.inj hf
      subst hf
      exact rw_zreturn dX12_isFree_227 rfl (nar_z hz14) ⟨rfl, hr⟩ (by decide) (by decide)
    · rw [if_neg c13] at hf
      refine rw_aload_n dX12_isFree_98 0 rfl rfl ?_
      refine sg_43_17 hr dX12_isFree_99 fl1479 ?_
      refine rw_iload dX12_isFree_102 4 rfl ?_
      obtain ⟨hi15, hf⟩ := grd hf
      refine sl_53 hr dX12_isFree_104 (inB_in hi15) ?_
      refine nmI hf (fun x16 hf => ?_)
      refine rw_istore (lv2 := [(5, .int x16), (0, .ref (ad 43)), (1, .int v1), (2, .int v2), (3, .int v3), (4, .int v4)]) dX12_isFree_105 (by decide) rfl ?_
      refine rw_aload_n dX12_isFree_107 1 rfl rfl ?_
      refine sg_43_18 hr dX12_isFree_108 fl1480 ?_
      refine rw_iload dX12_isFree_111 5 rfl ?_
      obtain ⟨hi17, hf⟩ := grd hf
      refine sl_54 hr dX12_isFree_113 (inB_in hi17) ?_
      refine nmI hf (fun x18 hf => ?_)
      refine rw_istore (lv2 := [(6, .int x18), (5, .int x16), (0, .ref (ad 43)), (1, .int v1), (2, .int v2), (3, .int v3), (4, .int v4)]) dX12_isFree_114 (by decide) rfl ?_
      refine rw_iload_n dX12_isFree_116 3 rfl rfl ?_
      refine rw_iload dX12_isFree_117 1 rfl ?_
      refine rw_icmp_eq (tgt := 140) dX12_isFree_119 (by decide) (fun c19 => ?_) (fun c19 => ?_)
      · rw [if_pos c19] at hf
        refine rw_sub [2, 3, 4, 5, 6, 1, 0] rfl ?_
        exact t_jX12_isFree_140 (ad := ad) (G := G) (lX12_isFree_89 n) ih v1 v2 v3 v4 x16 x18 σ _ hr hf
      · rw [if_neg c19] at hf
        refine rw_iload_n dX12_isFree_122 3 rfl rfl ?_
        refine rw_iload dX12_isFree_123 0 rfl ?_
        refine rw_icmp_eq (tgt := 140) dX12_isFree_125 (by decide) (fun c20 => ?_) (fun c20 => ?_)
        · rw [if_pos c20] at hf
          refine rw_sub [2, 3, 4, 5, 6, 1, 0] rfl ?_
          exact t_jX12_isFree_140 (ad := ad) (G := G) (lX12_isFree_89 n) ih v1 v2 v3 v4 x16 x18 σ _ hr hf
        · rw [if_neg c20] at hf
          refine rw_iload_n dX12_isFree_128 4 rfl rfl ?_
          refine rw_iload dX12_isFree_129 1 rfl ?_
          refine rw_icmp_eq (tgt := 140) dX12_isFree_131 (by decide) (fun c21 => ?_) (fun c21 => ?_)
          · rw [if_pos c21] at hf
            refine rw_sub [2, 3, 4, 5, 6, 1, 0] rfl ?_
            exact t_jX12_isFree_140 (ad := ad) (G := G) (lX12_isFree_89 n) ih v1 v2 v3 v4 x16 x18 σ _ hr hf
          · rw [if_neg c21] at hf
            refine rw_iload_n dX12_isFree_134 4 rfl rfl ?_
            refine rw_iload dX12_isFree_135 0 rfl ?_
            refine rw_icmp_ne (tgt := 144) dX12_isFree_137 (by decide) (fun c22 => ?_) (fun c22 => ?_)
            · rw [if_neg c22] at hf
              refine rw_iconst (v := 0) dX12_isFree_144 (by decide) ?_
              refine rw_sub [2, 3, 4, 5, 6, 1, 0] rfl ?_
              exact t_jX12_isFree_145 (ad := ad) (G := G) (lX12_isFree_89 n) ih v1 v2 v3 v4 x16 x18 0 σ _ hr hf
            · rw [if_pos c22] at hf
              refine rw_sub [2, 3, 4, 5, 6, 1, 0] rfl ?_
              exact t_jX12_isFree_140 (ad := ad) (G := G) (lX12_isFree_89 n) ih v1 v2 v3 v4 x16 x18 σ _ hr hf
def jX12_isFree_79 (k5 : Int32 → Int32 → Int32 → Int32 → rS → Option (Int32 × rS)) (v1 : Int32) (v2 : Int32) (v4 : Int32) (s0 : Int32) (σ : rS) : Option (Int32 × rS) := vI (v4 + 1) fun x36 => k5 v1 v2 s0 x36 σ
set_option maxHeartbeats 4000000 in
theorem t_jX12_isFree_79 {G : rG} {ad : Nat → Nat} {o : (Int32 × rS)} (k5 : Int32 → Int32 → Int32 → Int32 → rS → Option (Int32 × rS)) (hk5 : ∀ (v1 : Int32) (v2 : Int32) (v3 : Int32) (v4 : Int32) (σ : rS) (h : rH), Rep G ad σ h → k5 v1 v2 v3 v4 σ = some o → RW G mX12_isFree (rm 4 0 0) (qI G ad o) xN 0 0 5 [(0, .ref (ad 43)), (1, .int v1), (2, .int v2), (3, .int v3), (4, .int v4)] [] h) (v1 : Int32) (v2 : Int32) (v4 : Int32) (s0 : Int32) (σ : rS) (h : rH) (hr : Rep G ad σ h) (hf : jX12_isFree_79 k5 v1 v2 v4 s0 σ = some o) : RW G mX12_isFree (rm 4 0 0) (qI G ad o) xN 0 0 79 [(0, .ref (ad 43)), (1, .int v1), (2, .int v2), (4, .int v4)] [.int s0] h := by
  unfold jX12_isFree_79 at hf
  refine rw_istore_n (lv2 := [(3, .int s0), (0, .ref (ad 43)), (1, .int v1), (2, .int v2), (4, .int v4)]) dX12_isFree_79 rfl (by decide) rfl ?_
  refine rw_iinc (v := v4 + 1) (lv2 := [(4, .int (v4 + 1)), (3, .int s0), (0, .ref (ad 43)), (1, .int v1), (2, .int v2)]) dX12_isFree_80 4 rfl rfl (by decide) rfl ?_
  refine nmL hf (fun x36 hf => ?_)
  refine rw_goto (tgt := 5) dX12_isFree_83 (by decide) ?_
  refine rw_sub [2, 3, 4, 1, 0] rfl ?_
  exact hk5 v1 v2 s0 x36 σ _ hr hf
def jX12_isFree_78 (k5 : Int32 → Int32 → Int32 → Int32 → rS → Option (Int32 × rS)) (v1 : Int32) (v2 : Int32) (v4 : Int32) (σ : rS) : Option (Int32 × rS) := jX12_isFree_79 k5 v1 v2 v4 0 σ
set_option maxHeartbeats 4000000 in
theorem t_jX12_isFree_78 {G : rG} {ad : Nat → Nat} {o : (Int32 × rS)} (k5 : Int32 → Int32 → Int32 → Int32 → rS → Option (Int32 × rS)) (hk5 : ∀ (v1 : Int32) (v2 : Int32) (v3 : Int32) (v4 : Int32) (σ : rS) (h : rH), Rep G ad σ h → k5 v1 v2 v3 v4 σ = some o → RW G mX12_isFree (rm 4 0 0) (qI G ad o) xN 0 0 5 [(0, .ref (ad 43)), (1, .int v1), (2, .int v2), (3, .int v3), (4, .int v4)] [] h) (v1 : Int32) (v2 : Int32) (v4 : Int32) (σ : rS) (h : rH) (hr : Rep G ad σ h) (hf : jX12_isFree_78 k5 v1 v2 v4 σ = some o) : RW G mX12_isFree (rm 4 0 0) (qI G ad o) xN 0 0 78 [(0, .ref (ad 43)), (1, .int v1), (2, .int v2), (4, .int v4)] [] h := by
  unfold jX12_isFree_78 at hf
  refine rw_iconst (v := 0) dX12_isFree_78 (by decide) ?_
  exact t_jX12_isFree_79 (ad := ad) (G := G) k5 hk5 v1 v2 v4 0 σ _ hr hf
def jX12_isFree_74 (k5 : Int32 → Int32 → Int32 → Int32 → rS → Option (Int32 × rS)) (v1 : Int32) (v2 : Int32) (v4 : Int32) (σ : rS) : Option (Int32 × rS) := jX12_isFree_79 k5 v1 v2 v4 1 σ
set_option maxHeartbeats 4000000 in
theorem t_jX12_isFree_74 {G : rG} {ad : Nat → Nat} {o : (Int32 × rS)} (k5 : Int32 → Int32 → Int32 → Int32 → rS → Option (Int32 × rS)) (hk5 : ∀ (v1 : Int32) (v2 : Int32) (v3 : Int32) (v4 : Int32) (σ : rS) (h : rH), Rep G ad σ h → k5 v1 v2 v3 v4 σ = some o → RW G mX12_isFree (rm 4 0 0) (qI G ad o) xN 0 0 5 [(0, .ref (ad 43)), (1, .int v1), (2, .int v2), (3, .int v3), (4, .int v4)] [] h) (v1 : Int32) (v2 : Int32) (v4 : Int32) (σ : rS) (h : rH) (hr : Rep G ad σ h) (hf : jX12_isFree_74 k5 v1 v2 v4 σ = some o) : RW G mX12_isFree (rm 4 0 0) (qI G ad o) xN 0 0 74 [(0, .ref (ad 43)), (1, .int v1), (2, .int v2), (4, .int v4)] [] h := by
  unfold jX12_isFree_74 at hf
  refine rw_iconst (v := 1) dX12_isFree_74 (by decide) ?_
  refine rw_goto (tgt := 79) dX12_isFree_75 (by decide) ?_
  exact t_jX12_isFree_79 (ad := ad) (G := G) k5 hk5 v1 v2 v4 1 σ _ hr hf
def lX12_isFree_5  : Nat → Int32 → Int32 → Int32 → Int32 → rS → Option (Int32 × rS)
  | 0, _, _, _, _, _ => none
  | n + 1, v1, v2, v3, v4, σ => if (σ.1 43 2) ≤ v4 then lX12_isFree_89 1000 v1 v2 v3 0 σ else if v3 = 0 then jX12_isFree_78 (lX12_isFree_5 n) v1 v2 v4 σ else if v4 = v1 then jX12_isFree_74 (lX12_isFree_5 n) v1 v2 v4 σ else if v4 = v2 then jX12_isFree_74 (lX12_isFree_5 n) v1 v2 v4 σ else if inB v1 16 then if inB v1 16 then if inB v2 16 then if inB v2 16 then if inB v4 16 then if inB v4 16 then (fX12_isOn (σ.2.2.1 44 v1.toNatClampNeg) (σ.2.2.1 45 v1.toNatClampNeg) (σ.2.2.1 44 v2.toNatClampNeg) (σ.2.2.1 45 v2.toNatClampNeg) (σ.2.2.1 44 v4.toNatClampNeg) (σ.2.2.1 45 v4.toNatClampNeg) σ).bind fun q11 => (if q11.1 = 0 then jX12_isFree_74 (lX12_isFree_5 n) v1 v2 v4 q11.2 else jX12_isFree_78 (lX12_isFree_5 n) v1 v2 v4 q11.2) else none else none else none else none else none else none
set_option maxHeartbeats 4000000 in
theorem t_lX12_isFree_5 {G : rG} {ad : Nat → Nat} {o : (Int32 × rS)}   : ∀ (n : Nat) (v1 : Int32) (v2 : Int32) (v3 : Int32) (v4 : Int32) (σ : rS) (h : rH), Rep G ad σ h → lX12_isFree_5  n v1 v2 v3 v4 σ = some o → RW G mX12_isFree (rm 4 0 0) (qI G ad o) xN 0 0 5 [(0, .ref (ad 43)), (1, .int v1), (2, .int v2), (3, .int v3), (4, .int v4)] [] h := by
  intro n
  induction n with
  | zero =>
    intro v1 v2 v3 v4 σ h hr hf
    rw [lX12_isFree_5] at hf
    cases hf
  | succ n ih =>
    intro v1 v2 v3 v4 σ h hr hf
    rw [lX12_isFree_5] at hf
    refine rw_iload dX12_isFree_5 4 rfl ?_
    refine rw_aload_n dX12_isFree_7 0 rfl rfl ?_
    refine sg_43_2 hr dX12_isFree_8 fl1464 ?_
    refine rw_icmp_ge (tgt := 86) dX12_isFree_11 (by decide) (fun c1 => ?_) (fun c1 => ?_)
    · rw [if_pos c1] at hf
      refine rw_iconst (v := 0) dX12_isFree_86 (by decide) ?_
      refine rw_istore (lv2 := [(4, .int 0), (0, .ref (ad 43)), (1, .int v1), (2, .int v2), (3, .int v3)]) dX12_isFree_87 (by decide) rfl ?_
      refine rw_sub [1, 2, 3, 4, 0] rfl ?_
      exact t_lX12_isFree_89 (ad := ad) (G := G)  1000 v1 v2 v3 0 σ _ hr hf
    · rw [if_neg c1] at hf
      refine rw_iload_n dX12_isFree_14 3 rfl rfl ?_
      refine rw_if_eq (tgt := 78) dX12_isFree_15 (by decide) (fun c2 => ?_) (fun c2 => ?_)
      · rw [if_pos c2] at hf
        refine rw_sub [0, 1, 2, 4] rfl ?_
        exact t_jX12_isFree_78 (ad := ad) (G := G) (lX12_isFree_5 n) ih v1 v2 v4 σ _ hr hf
      · rw [if_neg c2] at hf
        refine rw_iload dX12_isFree_18 4 rfl ?_
        refine rw_iload_n dX12_isFree_20 1 rfl rfl ?_
        refine rw_icmp_eq (tgt := 74) dX12_isFree_21 (by decide) (fun c3 => ?_) (fun c3 => ?_)
        · rw [if_pos c3] at hf
          refine rw_sub [0, 1, 2, 4] rfl ?_
          exact t_jX12_isFree_74 (ad := ad) (G := G) (lX12_isFree_5 n) ih v1 v2 v4 σ _ hr hf
        · rw [if_neg c3] at hf
          refine rw_iload dX12_isFree_24 4 rfl ?_
          refine rw_iload_n dX12_isFree_26 2 rfl rfl ?_
          refine rw_icmp_eq (tgt := 74) dX12_isFree_27 (by decide) (fun c4 => ?_) (fun c4 => ?_)
          · rw [if_pos c4] at hf
            refine rw_sub [0, 1, 2, 4] rfl ?_
            exact t_jX12_isFree_74 (ad := ad) (G := G) (lX12_isFree_5 n) ih v1 v2 v4 σ _ hr hf
          · rw [if_neg c4] at hf
            refine rw_aload_n dX12_isFree_30 0 rfl rfl ?_
            refine sg_43_3 hr dX12_isFree_31 fl1465 ?_
            refine rw_iload_n dX12_isFree_34 1 rfl rfl ?_
            obtain ⟨hi5, hf⟩ := grd hf
            refine sl_44 hr dX12_isFree_35 (inB_in hi5) ?_
            refine rw_aload_n dX12_isFree_36 0 rfl rfl ?_
            refine sg_43_4 hr dX12_isFree_37 fl1466 ?_
            refine rw_iload_n dX12_isFree_40 1 rfl rfl ?_
            obtain ⟨hi6, hf⟩ := grd hf
            refine sl_45 hr dX12_isFree_41 (inB_in hi6) ?_
            refine rw_aload_n dX12_isFree_42 0 rfl rfl ?_
            refine sg_43_3 hr dX12_isFree_43 fl1465 ?_
            refine rw_iload_n dX12_isFree_46 2 rfl rfl ?_
            obtain ⟨hi7, hf⟩ := grd hf
            refine sl_44 hr dX12_isFree_47 (inB_in hi7) ?_
            refine rw_aload_n dX12_isFree_48 0 rfl rfl ?_
            refine sg_43_4 hr dX12_isFree_49 fl1466 ?_
            refine rw_iload_n dX12_isFree_52 2 rfl rfl ?_
            obtain ⟨hi8, hf⟩ := grd hf
            refine sl_45 hr dX12_isFree_53 (inB_in hi8) ?_
            refine rw_aload_n dX12_isFree_54 0 rfl rfl ?_
            refine sg_43_3 hr dX12_isFree_55 fl1465 ?_
            refine rw_iload dX12_isFree_58 4 rfl ?_
            obtain ⟨hi9, hf⟩ := grd hf
            refine sl_44 hr dX12_isFree_60 (inB_in hi9) ?_
            refine rw_aload_n dX12_isFree_61 0 rfl rfl ?_
            refine sg_43_4 hr dX12_isFree_62 fl1466 ?_
            refine rw_iload dX12_isFree_65 4 rfl ?_
            obtain ⟨hi10, hf⟩ := grd hf
            refine sl_45 hr dX12_isFree_67 (inB_in hi10) ?_
            obtain ⟨q11, hq11, hf⟩ := bnd hf
            refine kS_I (ad := ad) (As := [.int (σ.2.2.1 44 v1.toNatClampNeg), .int (σ.2.2.1 45 v1.toNatClampNeg), .int (σ.2.2.1 44 v2.toNatClampNeg), .int (σ.2.2.1 45 v2.toNatClampNeg), .int (σ.2.2.1 44 v4.toNatClampNeg), .int (σ.2.2.1 45 v4.toNatClampNeg)]) (st := []) dX12_isFree_68 calX12_isOn wm1665 wm1666 rfl rfl (Nat.le_of_ble_eq_true rfl) ⟨⟨by decide, by decide⟩, by decide, by decide⟩ (cmX12_isOn hr hq11) (fun h hr => ?_)
            refine rw_if_ne (tgt := 78) dX12_isFree_71 (by decide) (fun c12 => ?_) (fun c12 => ?_)
            · rw [if_neg c12] at hf
              refine rw_sub [0, 1, 2, 4] rfl ?_
              exact t_jX12_isFree_78 (ad := ad) (G := G) (lX12_isFree_5 n) ih v1 v2 v4 q11.2 _ hr hf
            · rw [if_pos c12] at hf
              refine rw_sub [0, 1, 2, 4] rfl ?_
              exact t_jX12_isFree_74 (ad := ad) (G := G) (lX12_isFree_5 n) ih v1 v2 v4 q11.2 _ hr hf
def fX12_isFree (a0 : Int32) (a1 : Int32) (σ : rS) : Option (Int32 × rS) := lX12_isFree_5 1000 a0 a1 1 0 σ
set_option maxHeartbeats 4000000 in
theorem cmX12_isFree {G : rG} {ad : Nat → Nat} {a0 : Int32} {a1 : Int32} {σ : rS} {h : rH} {o : (Int32 × rS)} (hr : Rep G ad σ h) (hf : fX12_isFree a0 a1 σ = some o) : rMT G mX12_isFree (rm 4 0 0) [.ref (ad 43), .int a0, .int a1] h (qI G ad o) xN := by
  unfold fX12_isFree at hf
  refine rw_met (by decide +kernel) rfl (Nat.le_of_ble_eq_true rfl) ?_
  show RW G _ _ _ _ 0 0 0 [(0, .ref (ad 43)), (1, .int a0), (2, .int a1)] [] h
  refine rw_iconst (v := 1) dX12_isFree_0 (by decide) ?_
  refine rw_istore_n (lv2 := [(3, .int 1), (0, .ref (ad 43)), (1, .int a0), (2, .int a1)]) dX12_isFree_1 rfl (by decide) rfl ?_
  refine rw_iconst (v := 0) dX12_isFree_2 (by decide) ?_
  refine rw_istore (lv2 := [(4, .int 0), (3, .int 1), (0, .ref (ad 43)), (1, .int a0), (2, .int a1)]) dX12_isFree_3 (by decide) rfl ?_
  refine rw_sub [2, 3, 4, 1, 0] rfl ?_
  exact t_lX12_isFree_5 (ad := ad) (G := G)  1000 a0 a1 1 0 σ _ hr hf
def jX12_takeEdge_95 (k5 : Int32 → Int32 → Int32 → Int32 → rS → Option (Unit × rS)) (v1 : Int32) (v2 : Int32) (v4 : Int32) (s0 : Int32) (σ : rS) : Option (Unit × rS) := vI (v4 + 1) fun x24 => k5 v1 v2 s0 x24 σ
set_option maxHeartbeats 4000000 in
theorem t_jX12_takeEdge_95 {G : rG} {ad : Nat → Nat} {o : (Unit × rS)} (k5 : Int32 → Int32 → Int32 → Int32 → rS → Option (Unit × rS)) (hk5 : ∀ (v1 : Int32) (v2 : Int32) (v3 : Int32) (v4 : Int32) (σ : rS) (h : rH), Rep G ad σ h → k5 v1 v2 v3 v4 σ = some o → RW G mX12_takeEdge (rm 4 0 0) (qV G ad o) xN 0 0 5 [(0, .ref (ad 43)), (1, .int v1), (2, .int v2), (3, .int v3), (4, .int v4)] [] h) (v1 : Int32) (v2 : Int32) (v4 : Int32) (s0 : Int32) (σ : rS) (h : rH) (hr : Rep G ad σ h) (hf : jX12_takeEdge_95 k5 v1 v2 v4 s0 σ = some o) : RW G mX12_takeEdge (rm 4 0 0) (qV G ad o) xN 0 0 95 [(0, .ref (ad 43)), (1, .int v1), (2, .int v2), (4, .int v4)] [.int s0] h := by
  unfold jX12_takeEdge_95 at hf
  refine rw_istore_n (lv2 := [(3, .int s0), (0, .ref (ad 43)), (1, .int v1), (2, .int v2), (4, .int v4)]) dX12_takeEdge_95 rfl (by decide) rfl ?_
  refine rw_iinc (v := v4 + 1) (lv2 := [(4, .int (v4 + 1)), (3, .int s0), (0, .ref (ad 43)), (1, .int v1), (2, .int v2)]) dX12_takeEdge_96 4 rfl rfl (by decide) rfl ?_
  refine nmL hf (fun x24 hf => ?_)
  refine rw_goto (tgt := 5) dX12_takeEdge_99 (by decide) ?_
  refine rw_sub [2, 3, 4, 1, 0] rfl ?_
  exact hk5 v1 v2 s0 x24 σ _ hr hf
def jX12_takeEdge_90 (k5 : Int32 → Int32 → Int32 → Int32 → rS → Option (Unit × rS)) (v1 : Int32) (v2 : Int32) (v4 : Int32) (σ : rS) : Option (Unit × rS) := jX12_takeEdge_95 k5 v1 v2 v4 1 σ
set_option maxHeartbeats 4000000 in
theorem t_jX12_takeEdge_90 {G : rG} {ad : Nat → Nat} {o : (Unit × rS)} (k5 : Int32 → Int32 → Int32 → Int32 → rS → Option (Unit × rS)) (hk5 : ∀ (v1 : Int32) (v2 : Int32) (v3 : Int32) (v4 : Int32) (σ : rS) (h : rH), Rep G ad σ h → k5 v1 v2 v3 v4 σ = some o → RW G mX12_takeEdge (rm 4 0 0) (qV G ad o) xN 0 0 5 [(0, .ref (ad 43)), (1, .int v1), (2, .int v2), (3, .int v3), (4, .int v4)] [] h) (v1 : Int32) (v2 : Int32) (v4 : Int32) (σ : rS) (h : rH) (hr : Rep G ad σ h) (hf : jX12_takeEdge_90 k5 v1 v2 v4 σ = some o) : RW G mX12_takeEdge (rm 4 0 0) (qV G ad o) xN 0 0 90 [(0, .ref (ad 43)), (1, .int v1), (2, .int v2), (4, .int v4)] [] h := by
  unfold jX12_takeEdge_90 at hf
  refine rw_iconst (v := 1) dX12_takeEdge_90 (by decide) ?_
  refine rw_goto (tgt := 95) dX12_takeEdge_91 (by decide) ?_
  exact t_jX12_takeEdge_95 (ad := ad) (G := G) k5 hk5 v1 v2 v4 1 σ _ hr hf
def lX12_takeEdge_5  : Nat → Int32 → Int32 → Int32 → Int32 → rS → Option (Unit × rS)
  | 0, _, _, _, _, _ => none
  | n + 1, v1, v2, v3, v4, σ => if (σ.1 43 10) ≤ v4 then if inB (σ.1 43 16) 120 then vS (uA σ 53 (σ.1 43 16).toNatClampNeg v1) fun σ3 => if inB (σ3.1 43 16) 120 then vS (uA σ3 54 (σ3.1 43 16).toNatClampNeg v2) fun σ5 => if inB (σ5.1 43 16) 120 then vS (uA σ5 55 (σ5.1 43 16).toNatClampNeg (vp_nar .boolean v3)) fun σ7 => if inB ((16 * v1) + v2) 256 then vS (uA σ7 56 ((16 * v1) + v2).toNatClampNeg (σ7.1 43 16)) fun σ9 => if inB ((16 * v2) + v1) 256 then vS (uA σ9 56 ((16 * v2) + v1).toNatClampNeg (σ9.1 43 16)) fun σ11 => vS (uI σ11 43 16 ((σ11.1 43 16) + 1)) fun σ12 => some ((), σ12) else none else none else none else none else none else if v3 = 0 then if inB v1 16 then if inB v1 16 then if inB v2 16 then if inB v2 16 then if inB (4 * v4) 32 then if inB ((4 * v4) + 1) 32 then if inB ((4 * v4) + 2) 32 then if inB ((4 * v4) + 3) 32 then (fX12_meet (σ.2.2.1 44 v1.toNatClampNeg) (σ.2.2.1 45 v1.toNatClampNeg) (σ.2.2.1 44 v2.toNatClampNeg) (σ.2.2.1 45 v2.toNatClampNeg) (σ.2.2.1 51 (4 * v4).toNatClampNeg) (σ.2.2.1 51 ((4 * v4) + 1).toNatClampNeg) (σ.2.2.1 51 ((4 * v4) + 2).toNatClampNeg) (σ.2.2.1 51 ((4 * v4) + 3).toNatClampNeg) σ).bind fun q22 => (if q22.1 = 0 then jX12_takeEdge_95 (lX12_takeEdge_5 n) v1 v2 v4 0 q22.2 else jX12_takeEdge_90 (lX12_takeEdge_5 n) v1 v2 v4 q22.2) else none else none else none else none else none else none else none else none else jX12_takeEdge_90 (lX12_takeEdge_5 n) v1 v2 v4 σ
set_option maxHeartbeats 4000000 in
theorem t_lX12_takeEdge_5 {G : rG} {ad : Nat → Nat} {o : (Unit × rS)}   : ∀ (n : Nat) (v1 : Int32) (v2 : Int32) (v3 : Int32) (v4 : Int32) (σ : rS) (h : rH), Rep G ad σ h → lX12_takeEdge_5  n v1 v2 v3 v4 σ = some o → RW G mX12_takeEdge (rm 4 0 0) (qV G ad o) xN 0 0 5 [(0, .ref (ad 43)), (1, .int v1), (2, .int v2), (3, .int v3), (4, .int v4)] [] h := by
  intro n
  induction n with
  | zero =>
    intro v1 v2 v3 v4 σ h hr hf
    rw [lX12_takeEdge_5] at hf
    cases hf
  | succ n ih =>
    intro v1 v2 v3 v4 σ h hr hf
    rw [lX12_takeEdge_5] at hf
    refine rw_iload dX12_takeEdge_5 4 rfl ?_
    refine rw_aload_n dX12_takeEdge_7 0 rfl rfl ?_
    refine sg_43_10 hr dX12_takeEdge_8 fl1472 ?_
    refine rw_icmp_ge (tgt := 102) dX12_takeEdge_11 (by decide) (fun c1 => ?_) (fun c1 => ?_)
    · rw [if_pos c1] at hf
      refine rw_aload_n dX12_takeEdge_102 0 rfl rfl ?_
      refine sg_43_17 hr dX12_takeEdge_103 fl1479 ?_
      refine rw_aload_n dX12_takeEdge_106 0 rfl rfl ?_
      refine sg_43_16 hr dX12_takeEdge_107 fl1478 ?_
      refine rw_iload_n dX12_takeEdge_110 1 rfl rfl ?_
      obtain ⟨hi2, hf⟩ := grd hf
      refine ss_53 hr dX12_takeEdge_111 (inB_in hi2) (fun h hr => ?_)
      refine nmS hf hr (fun σ3 hr hf => ?_)
      refine rw_aload_n dX12_takeEdge_112 0 rfl rfl ?_
      refine sg_43_18 hr dX12_takeEdge_113 fl1480 ?_
      refine rw_aload_n dX12_takeEdge_116 0 rfl rfl ?_
      refine sg_43_16 hr dX12_takeEdge_117 fl1478 ?_
      refine rw_iload_n dX12_takeEdge_120 2 rfl rfl ?_
      obtain ⟨hi4, hf⟩ := grd hf
      refine ss_54 hr dX12_takeEdge_121 (inB_in hi4) (fun h hr => ?_)
      refine nmS hf hr (fun σ5 hr hf => ?_)
      refine rw_aload_n dX12_takeEdge_122 0 rfl rfl ?_
      refine sg_43_19 hr dX12_takeEdge_123 fl1481 ?_
      refine rw_aload_n dX12_takeEdge_126 0 rfl rfl ?_
      refine sg_43_16 hr dX12_takeEdge_127 fl1478 ?_
      refine rw_iload_n dX12_takeEdge_130 3 rfl rfl ?_
      obtain ⟨hi6, hf⟩ := grd hf
      refine ss_55 hr dX12_takeEdge_131 (inB_in hi6) (fun h hr => ?_)
      refine nmS hf hr (fun σ7 hr hf => ?_)
      refine rw_aload_n dX12_takeEdge_132 0 rfl rfl ?_
      refine sg_43_20 hr dX12_takeEdge_133 fl1482 ?_
      refine rw_bipush (v := 16) dX12_takeEdge_136 (by decide) ?_
      refine rw_iload_n dX12_takeEdge_138 1 rfl rfl ?_
      refine rw_imul dX12_takeEdge_139 ?_
      refine rw_iload_n dX12_takeEdge_140 2 rfl rfl ?_
      refine rw_iadd dX12_takeEdge_141 ?_
      refine rw_aload_n dX12_takeEdge_142 0 rfl rfl ?_
      refine sg_43_16 hr dX12_takeEdge_143 fl1478 ?_
      obtain ⟨hi8, hf⟩ := grd hf
      refine ss_56 hr dX12_takeEdge_146 (inB_in hi8) (fun h hr => ?_)
      refine nmS hf hr (fun σ9 hr hf => ?_)
      refine rw_aload_n dX12_takeEdge_147 0 rfl rfl ?_
      refine sg_43_20 hr dX12_takeEdge_148 fl1482 ?_
      refine rw_bipush (v := 16) dX12_takeEdge_151 (by decide) ?_
      refine rw_iload_n dX12_takeEdge_153 2 rfl rfl ?_
      refine rw_imul dX12_takeEdge_154 ?_
      refine rw_iload_n dX12_takeEdge_155 1 rfl rfl ?_
      refine rw_iadd dX12_takeEdge_156 ?_
      refine rw_aload_n dX12_takeEdge_157 0 rfl rfl ?_
      refine sg_43_16 hr dX12_takeEdge_158 fl1478 ?_
      obtain ⟨hi10, hf⟩ := grd hf
      refine ss_56 hr dX12_takeEdge_161 (inB_in hi10) (fun h hr => ?_)
      refine nmS hf hr (fun σ11 hr hf => ?_)
      refine rw_aload_n dX12_takeEdge_162 0 rfl rfl ?_
      refine rw_dup dX12_takeEdge_163 rfl ?_
      refine sg_43_16 hr dX12_takeEdge_164 fl1478 ?_
      refine rw_iconst (v := 1) dX12_takeEdge_167 (by decide) ?_
      refine rw_iadd dX12_takeEdge_168 ?_
      refine sp_43_16 hr dX12_takeEdge_169 fl1478 (fun h hr => ?_)
      refine nmS hf hr (fun σ12 hr hf => ?_)
      replace hf := Option.some.inj hf
      subst hf
      exact rw_return dX12_takeEdge_172 rfl ⟨rfl, hr⟩ (by decide) (by decide)
    · rw [if_neg c1] at hf
      refine rw_iload_n dX12_takeEdge_14 3 rfl rfl ?_
      refine rw_if_ne (tgt := 90) dX12_takeEdge_15 (by decide) (fun c13 => ?_) (fun c13 => ?_)
      · rw [if_neg c13] at hf
        refine rw_sub [0, 1, 2, 4] rfl ?_
        exact t_jX12_takeEdge_90 (ad := ad) (G := G) (lX12_takeEdge_5 n) ih v1 v2 v4 σ _ hr hf
      · rw [if_pos c13] at hf
        refine rw_aload_n dX12_takeEdge_18 0 rfl rfl ?_
        refine sg_43_3 hr dX12_takeEdge_19 fl1465 ?_
        refine rw_iload_n dX12_takeEdge_22 1 rfl rfl ?_
        obtain ⟨hi14, hf⟩ := grd hf
        refine sl_44 hr dX12_takeEdge_23 (inB_in hi14) ?_
        refine rw_aload_n dX12_takeEdge_24 0 rfl rfl ?_
        refine sg_43_4 hr dX12_takeEdge_25 fl1466 ?_
        refine rw_iload_n dX12_takeEdge_28 1 rfl rfl ?_
        obtain ⟨hi15, hf⟩ := grd hf
        refine sl_45 hr dX12_takeEdge_29 (inB_in hi15) ?_
        refine rw_aload_n dX12_takeEdge_30 0 rfl rfl ?_
        refine sg_43_3 hr dX12_takeEdge_31 fl1465 ?_
        refine rw_iload_n dX12_takeEdge_34 2 rfl rfl ?_
        obtain ⟨hi16, hf⟩ := grd hf
        refine sl_44 hr dX12_takeEdge_35 (inB_in hi16) ?_
        refine rw_aload_n dX12_takeEdge_36 0 rfl rfl ?_
        refine sg_43_4 hr dX12_takeEdge_37 fl1466 ?_
        refine rw_iload_n dX12_takeEdge_40 2 rfl rfl ?_
        obtain ⟨hi17, hf⟩ := grd hf
        refine sl_45 hr dX12_takeEdge_41 (inB_in hi17) ?_
        refine rw_aload_n dX12_takeEdge_42 0 rfl rfl ?_
        refine sg_43_11 hr dX12_takeEdge_43 fl1473 ?_
        refine rw_iconst (v := 4) dX12_takeEdge_46 (by decide) ?_
        refine rw_iload dX12_takeEdge_47 4 rfl ?_
        refine rw_imul dX12_takeEdge_49 ?_
        obtain ⟨hi18, hf⟩ := grd hf
        refine sl_51 hr dX12_takeEdge_50 (inB_in hi18) ?_
        refine rw_aload_n dX12_takeEdge_51 0 rfl rfl ?_
        refine sg_43_11 hr dX12_takeEdge_52 fl1473 ?_
        refine rw_iconst (v := 4) dX12_takeEdge_55 (by decide) ?_
        refine rw_iload dX12_takeEdge_56 4 rfl ?_
        refine rw_imul dX12_takeEdge_58 ?_
        refine rw_iconst (v := 1) dX12_takeEdge_59 (by decide) ?_
        refine rw_iadd dX12_takeEdge_60 ?_
        obtain ⟨hi19, hf⟩ := grd hf
        refine sl_51 hr dX12_takeEdge_61 (inB_in hi19) ?_
        refine rw_aload_n dX12_takeEdge_62 0 rfl rfl ?_
        refine sg_43_11 hr dX12_takeEdge_63 fl1473 ?_
        refine rw_iconst (v := 4) dX12_takeEdge_66 (by decide) ?_
        refine rw_iload dX12_takeEdge_67 4 rfl ?_
        refine rw_imul dX12_takeEdge_69 ?_
        refine rw_iconst (v := 2) dX12_takeEdge_70 (by decide) ?_
        refine rw_iadd dX12_takeEdge_71 ?_
        obtain ⟨hi20, hf⟩ := grd hf
        refine sl_51 hr dX12_takeEdge_72 (inB_in hi20) ?_
        refine rw_aload_n dX12_takeEdge_73 0 rfl rfl ?_
        refine sg_43_11 hr dX12_takeEdge_74 fl1473 ?_
        refine rw_iconst (v := 4) dX12_takeEdge_77 (by decide) ?_
        refine rw_iload dX12_takeEdge_78 4 rfl ?_
        refine rw_imul dX12_takeEdge_80 ?_
        refine rw_iconst (v := 3) dX12_takeEdge_81 (by decide) ?_
        refine rw_iadd dX12_takeEdge_82 ?_
        obtain ⟨hi21, hf⟩ := grd hf
        refine sl_51 hr dX12_takeEdge_83 (inB_in hi21) ?_
        obtain ⟨q22, hq22, hf⟩ := bnd hf
        refine kS_I (ad := ad) (As := [.int (σ.2.2.1 44 v1.toNatClampNeg), .int (σ.2.2.1 45 v1.toNatClampNeg), .int (σ.2.2.1 44 v2.toNatClampNeg), .int (σ.2.2.1 45 v2.toNatClampNeg), .int (σ.2.2.1 51 (4 * v4).toNatClampNeg), .int (σ.2.2.1 51 ((4 * v4) + 1).toNatClampNeg), .int (σ.2.2.1 51 ((4 * v4) + 2).toNatClampNeg), .int (σ.2.2.1 51 ((4 * v4) + 3).toNatClampNeg)]) (st := []) dX12_takeEdge_84 calX12_meet wm1677 wm1678 rfl rfl (Nat.le_of_ble_eq_true rfl) ⟨⟨by decide, by decide⟩, by decide, by decide⟩ (cmX12_meet hr hq22) (fun h hr => ?_)
        refine rw_if_eq (tgt := 94) dX12_takeEdge_87 (by decide) (fun c23 => ?_) (fun c23 => ?_)
        · rw [if_pos c23] at hf
          refine rw_iconst (v := 0) dX12_takeEdge_94 (by decide) ?_
          refine rw_sub [0, 1, 2, 4] rfl ?_
          exact t_jX12_takeEdge_95 (ad := ad) (G := G) (lX12_takeEdge_5 n) ih v1 v2 v4 0 q22.2 _ hr hf
        · rw [if_neg c23] at hf
          refine rw_sub [0, 1, 2, 4] rfl ?_
          exact t_jX12_takeEdge_90 (ad := ad) (G := G) (lX12_takeEdge_5 n) ih v1 v2 v4 q22.2 _ hr hf
def fX12_takeEdge (a0 : Int32) (a1 : Int32) (σ : rS) : Option (Unit × rS) := lX12_takeEdge_5 1000 a0 a1 0 0 σ
set_option maxHeartbeats 4000000 in
theorem cmX12_takeEdge {G : rG} {ad : Nat → Nat} {a0 : Int32} {a1 : Int32} {σ : rS} {h : rH} {o : (Unit × rS)} (hr : Rep G ad σ h) (hf : fX12_takeEdge a0 a1 σ = some o) : rMT G mX12_takeEdge (rm 4 0 0) [.ref (ad 43), .int a0, .int a1] h (qV G ad o) xN := by
  unfold fX12_takeEdge at hf
  refine rw_met (by decide +kernel) rfl (Nat.le_of_ble_eq_true rfl) ?_
  show RW G _ _ _ _ 0 0 0 [(0, .ref (ad 43)), (1, .int a0), (2, .int a1)] [] h
  refine rw_iconst (v := 0) dX12_takeEdge_0 (by decide) ?_
  refine rw_istore_n (lv2 := [(3, .int 0), (0, .ref (ad 43)), (1, .int a0), (2, .int a1)]) dX12_takeEdge_1 rfl (by decide) rfl ?_
  refine rw_iconst (v := 0) dX12_takeEdge_2 (by decide) ?_
  refine rw_istore (lv2 := [(4, .int 0), (3, .int 0), (0, .ref (ad 43)), (1, .int a0), (2, .int a1)]) dX12_takeEdge_3 (by decide) rfl ?_
  refine rw_sub [2, 3, 4, 1, 0] rfl ?_
  exact t_lX12_takeEdge_5 (ad := ad) (G := G)  1000 a0 a1 0 0 σ _ hr hf
def jX12_findEdges_206 (k33 : Int32 → Int32 → Int32 → rS → Option (Unit × rS)) (v1 : Int32) (v2 : Int32) (v3 : Int32) (σ : rS) : Option (Unit × rS) := k33 v1 v2 v3 σ
set_option maxHeartbeats 4000000 in
theorem t_jX12_findEdges_206 {G : rG} {ad : Nat → Nat} {o : (Unit × rS)} (k33 : Int32 → Int32 → Int32 → rS → Option (Unit × rS)) (hk33 : ∀ (v1 : Int32) (v2 : Int32) (v3 : Int32) (σ : rS) (h : rH), Rep G ad σ h → k33 v1 v2 v3 σ = some o → RW G mX12_findEdges (rm 5 0 0) (qV G ad o) xN 0 0 33 [(0, .ref (ad 43)), (1, .int v1), (2, .int v2), (3, .int v3)] [] h) (v1 : Int32) (v2 : Int32) (v3 : Int32) (σ : rS) (h : rH) (hr : Rep G ad σ h) (hf : jX12_findEdges_206 k33 v1 v2 v3 σ = some o) : RW G mX12_findEdges (rm 5 0 0) (qV G ad o) xN 0 0 206 [(0, .ref (ad 43)), (1, .int v1), (2, .int v2), (3, .int v3)] [] h := by
  unfold jX12_findEdges_206 at hf
  refine rw_goto (tgt := 33) dX12_findEdges_206 (by decide) ?_
  exact hk33 v1 v2 v3 σ _ hr hf
def jX12_findEdges_164 (k33 : Int32 → Int32 → Int32 → rS → Option (Unit × rS)) (v4 : Int32) (v5 : Int32) (s0 : Int32) (σ : rS) : Option (Unit × rS) := if s0 = 0 then jX12_findEdges_206 k33 v5 v4 s0 σ else (fX12_isFree (v4 / 16) (v4 - v4 / 16 * 16) σ).bind fun q13 => if q13.1 = 0 then jX12_findEdges_206 k33 v5 v4 s0 q13.2 else (fX12_takeEdge (v4 / 16) (v4 - v4 / 16 * 16) q13.2).bind fun q17 => jX12_findEdges_206 k33 v5 v4 s0 q17.2
set_option maxHeartbeats 4000000 in
theorem t_jX12_findEdges_164 {G : rG} {ad : Nat → Nat} {o : (Unit × rS)} (k33 : Int32 → Int32 → Int32 → rS → Option (Unit × rS)) (hk33 : ∀ (v1 : Int32) (v2 : Int32) (v3 : Int32) (σ : rS) (h : rH), Rep G ad σ h → k33 v1 v2 v3 σ = some o → RW G mX12_findEdges (rm 5 0 0) (qV G ad o) xN 0 0 33 [(0, .ref (ad 43)), (1, .int v1), (2, .int v2), (3, .int v3)] [] h) (v4 : Int32) (v5 : Int32) (s0 : Int32) (σ : rS) (h : rH) (hr : Rep G ad σ h) (hf : jX12_findEdges_164 k33 v4 v5 s0 σ = some o) : RW G mX12_findEdges (rm 5 0 0) (qV G ad o) xN 0 0 164 [(0, .ref (ad 43)), (4, .int v4), (5, .int v5)] [.int s0] h := by
  unfold jX12_findEdges_164 at hf
  refine rw_istore_n (lv2 := [(3, .int s0), (0, .ref (ad 43)), (4, .int v4), (5, .int v5)]) dX12_findEdges_164 rfl (by decide) rfl ?_
  refine rw_iload dX12_findEdges_165 3 rfl ?_
  refine rw_istore_n (lv2 := [(1, .int v5), (3, .int s0), (0, .ref (ad 43)), (4, .int v4), (5, .int v5)]) dX12_findEdges_167 rfl (by decide) rfl ?_
  refine rw_iload dX12_findEdges_168 3 rfl ?_
  refine rw_istore_n (lv2 := [(2, .int v4), (1, .int v5), (3, .int s0), (0, .ref (ad 43)), (4, .int v4), (5, .int v5)]) dX12_findEdges_170 rfl (by decide) rfl ?_
  refine rw_iload_n dX12_findEdges_171 2 rfl rfl ?_
  refine rw_if_eq (tgt := 206) dX12_findEdges_172 (by decide) (fun c10 => ?_) (fun c10 => ?_)
  · rw [if_pos c10] at hf
    refine rw_sub [3, 1, 0, 2] rfl ?_
    exact t_jX12_findEdges_206 (ad := ad) (G := G) k33 hk33 v5 v4 s0 σ _ hr hf
  · rw [if_neg c10] at hf
    refine rw_aload_n dX12_findEdges_175 3 rfl rfl ?_
    refine rw_iload dX12_findEdges_176 4 rfl ?_
    refine rw_bipush (v := 16) dX12_findEdges_178 (by decide) ?_
    refine rw_idiv dX12_findEdges_180 (by decide) ?_
    refine rw_iload dX12_findEdges_181 4 rfl ?_
    refine rw_bipush (v := 16) dX12_findEdges_183 (by decide) ?_
    refine rw_irem dX12_findEdges_185 (by decide) ?_
    obtain ⟨q13, hq13, hf⟩ := bnd hf
    refine kV_I (ad := ad) (As := [.int (v4 / 16), .int (v4 - v4 / 16 * 16)]) (st := []) dX12_findEdges_186 calX12_isFree wm1661 wm1663 wm35 rfl rfl (rc_43 hr) (ci := 12) (by decide) rfl rfl (Nat.le_of_ble_eq_true rfl) ⟨⟨by decide, by decide⟩, by decide, by decide⟩ (cmX12_isFree hr hq13) (fun h hr => ?_)
    refine rw_if_eq (tgt := 206) dX12_findEdges_189 (by decide) (fun c14 => ?_) (fun c14 => ?_)
    · rw [if_pos c14] at hf
      refine rw_sub [3, 1, 0, 2] rfl ?_
      exact t_jX12_findEdges_206 (ad := ad) (G := G) k33 hk33 v5 v4 s0 q13.2 _ hr hf
    · rw [if_neg c14] at hf
      refine rw_aload_n dX12_findEdges_192 3 rfl rfl ?_
      refine rw_iload dX12_findEdges_193 4 rfl ?_
      refine rw_bipush (v := 16) dX12_findEdges_195 (by decide) ?_
      refine rw_idiv dX12_findEdges_197 (by decide) ?_
      refine rw_iload dX12_findEdges_198 4 rfl ?_
      refine rw_bipush (v := 16) dX12_findEdges_200 (by decide) ?_
      refine rw_irem dX12_findEdges_202 (by decide) ?_
      obtain ⟨q17, hq17, hf⟩ := bnd hf
      refine kV_V (ad := ad) (As := [.int (v4 / 16), .int (v4 - v4 / 16 * 16)]) (st := []) dX12_findEdges_203 calX12_takeEdge wm1680 wm1682 wm36 rfl rfl (rc_43 hr) (ci := 12) (by decide) rfl rfl (Nat.le_of_ble_eq_true rfl) ⟨⟨by decide, by decide⟩, by decide, by decide⟩ (cmX12_takeEdge hr hq17) (fun h hr => ?_)
      refine rw_sub [3, 1, 0, 2] rfl ?_
      exact t_jX12_findEdges_206 (ad := ad) (G := G) k33 hk33 v5 v4 s0 q17.2 _ hr hf
def jX12_findEdges_142 (k33 : Int32 → Int32 → Int32 → rS → Option (Unit × rS)) (k46 : Int32 → Int32 → Int32 → Int32 → Int32 → rS → Option (Unit × rS)) (k61 : Int32 → Int32 → Int32 → Int32 → Int32 → Int32 → rS → Option (Unit × rS)) (v1 : Int32) (v2 : Int32) (v4 : Int32) (v5 : Int32) (v6 : Int32) (v7 : Int32) (σ : rS) : Option (Unit × rS) := vI (v7 + 1) fun x28 => k61 v1 v2 v4 v5 v6 x28 σ
set_option maxHeartbeats 4000000 in
theorem t_jX12_findEdges_142 {G : rG} {ad : Nat → Nat} {o : (Unit × rS)} (k33 : Int32 → Int32 → Int32 → rS → Option (Unit × rS)) (k46 : Int32 → Int32 → Int32 → Int32 → Int32 → rS → Option (Unit × rS)) (k61 : Int32 → Int32 → Int32 → Int32 → Int32 → Int32 → rS → Option (Unit × rS)) (hk33 : ∀ (v1 : Int32) (v2 : Int32) (v3 : Int32) (σ : rS) (h : rH), Rep G ad σ h → k33 v1 v2 v3 σ = some o → RW G mX12_findEdges (rm 5 0 0) (qV G ad o) xN 0 0 33 [(0, .ref (ad 43)), (1, .int v1), (2, .int v2), (3, .int v3)] [] h) (hk46 : ∀ (v1 : Int32) (v2 : Int32) (v4 : Int32) (v5 : Int32) (v6 : Int32) (σ : rS) (h : rH), Rep G ad σ h → k46 v1 v2 v4 v5 v6 σ = some o → RW G mX12_findEdges (rm 5 0 0) (qV G ad o) xN 0 0 46 [(0, .ref (ad 43)), (1, .int v1), (2, .int v2), (4, .int v4), (5, .int v5), (6, .int v6)] [] h) (hk61 : ∀ (v1 : Int32) (v2 : Int32) (v4 : Int32) (v5 : Int32) (v6 : Int32) (v7 : Int32) (σ : rS) (h : rH), Rep G ad σ h → k61 v1 v2 v4 v5 v6 v7 σ = some o → RW G mX12_findEdges (rm 5 0 0) (qV G ad o) xN 0 0 61 [(0, .ref (ad 43)), (1, .int v1), (2, .int v2), (4, .int v4), (5, .int v5), (6, .int v6), (7, .int v7)] [] h) (v1 : Int32) (v2 : Int32) (v4 : Int32) (v5 : Int32) (v6 : Int32) (v7 : Int32) (σ : rS) (h : rH) (hr : Rep G ad σ h) (hf : jX12_findEdges_142 k33 k46 k61 v1 v2 v4 v5 v6 v7 σ = some o) : RW G mX12_findEdges (rm 5 0 0) (qV G ad o) xN 0 0 142 [(0, .ref (ad 43)), (1, .int v1), (2, .int v2), (4, .int v4), (5, .int v5), (6, .int v6), (7, .int v7)] [] h := by
  unfold jX12_findEdges_142 at hf
  refine rw_iinc (v := v7 + 1) (lv2 := [(7, .int (v7 + 1)), (0, .ref (ad 43)), (1, .int v1), (2, .int v2), (4, .int v4), (5, .int v5), (6, .int v6)]) dX12_findEdges_142 6 rfl rfl (by decide) rfl ?_
  refine nmL hf (fun x28 hf => ?_)
  refine rw_goto (tgt := 61) dX12_findEdges_145 (by decide) ?_
  refine rw_sub [1, 2, 3, 4, 5, 6, 0] rfl ?_
  exact hk61 v1 v2 v4 v5 v6 x28 σ _ hr hf
def jX12_findEdges_128 (k33 : Int32 → Int32 → Int32 → rS → Option (Unit × rS)) (k46 : Int32 → Int32 → Int32 → Int32 → Int32 → rS → Option (Unit × rS)) (k61 : Int32 → Int32 → Int32 → Int32 → Int32 → Int32 → rS → Option (Unit × rS)) (v1 : Int32) (v2 : Int32) (v6 : Int32) (v7 : Int32) (v8 : Int32) (σ : rS) : Option (Unit × rS) := vI ((16 * v6) + v7) fun x29 => jX12_findEdges_142 k33 k46 k61 v1 v2 x29 v8 v6 v7 σ
set_option maxHeartbeats 4000000 in
theorem t_jX12_findEdges_128 {G : rG} {ad : Nat → Nat} {o : (Unit × rS)} (k33 : Int32 → Int32 → Int32 → rS → Option (Unit × rS)) (k46 : Int32 → Int32 → Int32 → Int32 → Int32 → rS → Option (Unit × rS)) (k61 : Int32 → Int32 → Int32 → Int32 → Int32 → Int32 → rS → Option (Unit × rS)) (hk33 : ∀ (v1 : Int32) (v2 : Int32) (v3 : Int32) (σ : rS) (h : rH), Rep G ad σ h → k33 v1 v2 v3 σ = some o → RW G mX12_findEdges (rm 5 0 0) (qV G ad o) xN 0 0 33 [(0, .ref (ad 43)), (1, .int v1), (2, .int v2), (3, .int v3)] [] h) (hk46 : ∀ (v1 : Int32) (v2 : Int32) (v4 : Int32) (v5 : Int32) (v6 : Int32) (σ : rS) (h : rH), Rep G ad σ h → k46 v1 v2 v4 v5 v6 σ = some o → RW G mX12_findEdges (rm 5 0 0) (qV G ad o) xN 0 0 46 [(0, .ref (ad 43)), (1, .int v1), (2, .int v2), (4, .int v4), (5, .int v5), (6, .int v6)] [] h) (hk61 : ∀ (v1 : Int32) (v2 : Int32) (v4 : Int32) (v5 : Int32) (v6 : Int32) (v7 : Int32) (σ : rS) (h : rH), Rep G ad σ h → k61 v1 v2 v4 v5 v6 v7 σ = some o → RW G mX12_findEdges (rm 5 0 0) (qV G ad o) xN 0 0 61 [(0, .ref (ad 43)), (1, .int v1), (2, .int v2), (4, .int v4), (5, .int v5), (6, .int v6), (7, .int v7)] [] h) (v1 : Int32) (v2 : Int32) (v6 : Int32) (v7 : Int32) (v8 : Int32) (σ : rS) (h : rH) (hr : Rep G ad σ h) (hf : jX12_findEdges_128 k33 k46 k61 v1 v2 v6 v7 v8 σ = some o) : RW G mX12_findEdges (rm 5 0 0) (qV G ad o) xN 0 0 128 [(0, .ref (ad 43)), (1, .int v1), (2, .int v2), (6, .int v6), (7, .int v7), (8, .int v8)] [] h := by
  unfold jX12_findEdges_128 at hf
  refine rw_bipush (v := 16) dX12_findEdges_128 (by decide) ?_
  refine rw_iload dX12_findEdges_130 3 rfl ?_
  refine rw_imul dX12_findEdges_132 ?_
  refine rw_iload dX12_findEdges_133 4 rfl ?_
  refine rw_iadd dX12_findEdges_135 ?_
  refine nmI hf (fun x29 hf => ?_)
  refine rw_istore (lv2 := [(4, .int x29), (0, .ref (ad 43)), (1, .int v1), (2, .int v2), (6, .int v6), (7, .int v7), (8, .int v8)]) dX12_findEdges_136 (by decide) rfl ?_
  refine rw_iload dX12_findEdges_138 6 rfl ?_
  refine rw_istore (lv2 := [(5, .int v8), (4, .int x29), (0, .ref (ad 43)), (1, .int v1), (2, .int v2), (6, .int v6), (7, .int v7), (8, .int v8)]) dX12_findEdges_140 (by decide) rfl ?_
  refine rw_sub [2, 3, 4, 1, 0, 5, 6] rfl ?_
  exact t_jX12_findEdges_142 (ad := ad) (G := G) k33 k46 k61 hk33 hk46 hk61 v1 v2 x29 v8 v6 v7 σ _ hr hf
def jX12_findEdges_109 (k33 : Int32 → Int32 → Int32 → rS → Option (Unit × rS)) (k46 : Int32 → Int32 → Int32 → Int32 → Int32 → rS → Option (Unit × rS)) (k61 : Int32 → Int32 → Int32 → Int32 → Int32 → Int32 → rS → Option (Unit × rS)) (v1 : Int32) (v2 : Int32) (v4 : Int32) (v5 : Int32) (v6 : Int32) (v7 : Int32) (v8 : Int32) (s0 : Int32) (σ : rS) : Option (Unit × rS) := if s0 = 0 then jX12_findEdges_142 k33 k46 k61 v1 v2 v4 v5 v6 v7 σ else if v4 < 0 then jX12_findEdges_128 k33 k46 k61 v1 v2 v6 v7 v8 σ else if v5 ≤ v8 then jX12_findEdges_142 k33 k46 k61 v1 v2 v4 v5 v6 v7 σ else jX12_findEdges_128 k33 k46 k61 v1 v2 v6 v7 v8 σ
set_option maxHeartbeats 4000000 in
theorem t_jX12_findEdges_109 {G : rG} {ad : Nat → Nat} {o : (Unit × rS)} (k33 : Int32 → Int32 → Int32 → rS → Option (Unit × rS)) (k46 : Int32 → Int32 → Int32 → Int32 → Int32 → rS → Option (Unit × rS)) (k61 : Int32 → Int32 → Int32 → Int32 → Int32 → Int32 → rS → Option (Unit × rS)) (hk33 : ∀ (v1 : Int32) (v2 : Int32) (v3 : Int32) (σ : rS) (h : rH), Rep G ad σ h → k33 v1 v2 v3 σ = some o → RW G mX12_findEdges (rm 5 0 0) (qV G ad o) xN 0 0 33 [(0, .ref (ad 43)), (1, .int v1), (2, .int v2), (3, .int v3)] [] h) (hk46 : ∀ (v1 : Int32) (v2 : Int32) (v4 : Int32) (v5 : Int32) (v6 : Int32) (σ : rS) (h : rH), Rep G ad σ h → k46 v1 v2 v4 v5 v6 σ = some o → RW G mX12_findEdges (rm 5 0 0) (qV G ad o) xN 0 0 46 [(0, .ref (ad 43)), (1, .int v1), (2, .int v2), (4, .int v4), (5, .int v5), (6, .int v6)] [] h) (hk61 : ∀ (v1 : Int32) (v2 : Int32) (v4 : Int32) (v5 : Int32) (v6 : Int32) (v7 : Int32) (σ : rS) (h : rH), Rep G ad σ h → k61 v1 v2 v4 v5 v6 v7 σ = some o → RW G mX12_findEdges (rm 5 0 0) (qV G ad o) xN 0 0 61 [(0, .ref (ad 43)), (1, .int v1), (2, .int v2), (4, .int v4), (5, .int v5), (6, .int v6), (7, .int v7)] [] h) (v1 : Int32) (v2 : Int32) (v4 : Int32) (v5 : Int32) (v6 : Int32) (v7 : Int32) (v8 : Int32) (s0 : Int32) (σ : rS) (h : rH) (hr : Rep G ad σ h) (hf : jX12_findEdges_109 k33 k46 k61 v1 v2 v4 v5 v6 v7 v8 s0 σ = some o) : RW G mX12_findEdges (rm 5 0 0) (qV G ad o) xN 0 0 109 [(0, .ref (ad 43)), (1, .int v1), (2, .int v2), (4, .int v4), (5, .int v5), (6, .int v6), (7, .int v7), (8, .int v8)] [.int s0] h := by
  unfold jX12_findEdges_109 at hf
  refine rw_istore (lv2 := [(9, .int s0), (0, .ref (ad 43)), (1, .int v1), (2, .int v2), (4, .int v4), (5, .int v5), (6, .int v6), (7, .int v7), (8, .int v8)]) dX12_findEdges_109 (by decide) rfl ?_
  refine rw_iload dX12_findEdges_111 0 rfl ?_
  refine rw_if_eq (tgt := 142) dX12_findEdges_113 (by decide) (fun c25 => ?_) (fun c25 => ?_)
  · rw [if_pos c25] at hf
    refine rw_sub [1, 2, 3, 4, 5, 6, 7] rfl ?_
    exact t_jX12_findEdges_142 (ad := ad) (G := G) k33 k46 k61 hk33 hk46 hk61 v1 v2 v4 v5 v6 v7 σ _ hr hf
  · rw [if_neg c25] at hf
    refine rw_iload dX12_findEdges_116 4 rfl ?_
    refine rw_if_lt (tgt := 128) dX12_findEdges_118 (by decide) (fun c26 => ?_) (fun c26 => ?_)
    · rw [if_pos c26] at hf
      refine rw_sub [1, 2, 3, 6, 7, 8] rfl ?_
      exact t_jX12_findEdges_128 (ad := ad) (G := G) k33 k46 k61 hk33 hk46 hk61 v1 v2 v6 v7 v8 σ _ hr hf
    · rw [if_neg c26] at hf
      refine rw_iload dX12_findEdges_121 8 rfl ?_
      refine rw_iload dX12_findEdges_123 5 rfl ?_
      refine rw_icmp_ge (tgt := 142) dX12_findEdges_125 (by decide) (fun c27 => ?_) (fun c27 => ?_)
      · rw [if_pos c27] at hf
        refine rw_sub [1, 2, 3, 4, 5, 6, 7] rfl ?_
        exact t_jX12_findEdges_142 (ad := ad) (G := G) k33 k46 k61 hk33 hk46 hk61 v1 v2 v4 v5 v6 v7 σ _ hr hf
      · rw [if_neg c27] at hf
        refine rw_sub [1, 2, 3, 6, 7, 8] rfl ?_
        exact t_jX12_findEdges_128 (ad := ad) (G := G) k33 k46 k61 hk33 hk46 hk61 v1 v2 v6 v7 v8 σ _ hr hf
def jX12_findEdges_108 (k33 : Int32 → Int32 → Int32 → rS → Option (Unit × rS)) (k46 : Int32 → Int32 → Int32 → Int32 → Int32 → rS → Option (Unit × rS)) (k61 : Int32 → Int32 → Int32 → Int32 → Int32 → Int32 → rS → Option (Unit × rS)) (v1 : Int32) (v2 : Int32) (v4 : Int32) (v5 : Int32) (v6 : Int32) (v7 : Int32) (v8 : Int32) (σ : rS) : Option (Unit × rS) := jX12_findEdges_109 k33 k46 k61 v1 v2 v4 v5 v6 v7 v8 0 σ
set_option maxHeartbeats 4000000 in
theorem t_jX12_findEdges_108 {G : rG} {ad : Nat → Nat} {o : (Unit × rS)} (k33 : Int32 → Int32 → Int32 → rS → Option (Unit × rS)) (k46 : Int32 → Int32 → Int32 → Int32 → Int32 → rS → Option (Unit × rS)) (k61 : Int32 → Int32 → Int32 → Int32 → Int32 → Int32 → rS → Option (Unit × rS)) (hk33 : ∀ (v1 : Int32) (v2 : Int32) (v3 : Int32) (σ : rS) (h : rH), Rep G ad σ h → k33 v1 v2 v3 σ = some o → RW G mX12_findEdges (rm 5 0 0) (qV G ad o) xN 0 0 33 [(0, .ref (ad 43)), (1, .int v1), (2, .int v2), (3, .int v3)] [] h) (hk46 : ∀ (v1 : Int32) (v2 : Int32) (v4 : Int32) (v5 : Int32) (v6 : Int32) (σ : rS) (h : rH), Rep G ad σ h → k46 v1 v2 v4 v5 v6 σ = some o → RW G mX12_findEdges (rm 5 0 0) (qV G ad o) xN 0 0 46 [(0, .ref (ad 43)), (1, .int v1), (2, .int v2), (4, .int v4), (5, .int v5), (6, .int v6)] [] h) (hk61 : ∀ (v1 : Int32) (v2 : Int32) (v4 : Int32) (v5 : Int32) (v6 : Int32) (v7 : Int32) (σ : rS) (h : rH), Rep G ad σ h → k61 v1 v2 v4 v5 v6 v7 σ = some o → RW G mX12_findEdges (rm 5 0 0) (qV G ad o) xN 0 0 61 [(0, .ref (ad 43)), (1, .int v1), (2, .int v2), (4, .int v4), (5, .int v5), (6, .int v6), (7, .int v7)] [] h) (v1 : Int32) (v2 : Int32) (v4 : Int32) (v5 : Int32) (v6 : Int32) (v7 : Int32) (v8 : Int32) (σ : rS) (h : rH) (hr : Rep G ad σ h) (hf : jX12_findEdges_108 k33 k46 k61 v1 v2 v4 v5 v6 v7 v8 σ = some o) : RW G mX12_findEdges (rm 5 0 0) (qV G ad o) xN 0 0 108 [(0, .ref (ad 43)), (1, .int v1), (2, .int v2), (4, .int v4), (5, .int v5), (6, .int v6), (7, .int v7), (8, .int v8)] [] h := by
  unfold jX12_findEdges_108 at hf
  refine rw_iconst (v := 0) dX12_findEdges_108 (by decide) ?_
  exact t_jX12_findEdges_109 (ad := ad) (G := G) k33 k46 k61 hk33 hk46 hk61 v1 v2 v4 v5 v6 v7 v8 0 σ _ hr hf
def jX12_findEdges_104 (k33 : Int32 → Int32 → Int32 → rS → Option (Unit × rS)) (k46 : Int32 → Int32 → Int32 → Int32 → Int32 → rS → Option (Unit × rS)) (k61 : Int32 → Int32 → Int32 → Int32 → Int32 → Int32 → rS → Option (Unit × rS)) (v1 : Int32) (v2 : Int32) (v4 : Int32) (v5 : Int32) (v6 : Int32) (v7 : Int32) (v8 : Int32) (σ : rS) : Option (Unit × rS) := jX12_findEdges_109 k33 k46 k61 v1 v2 v4 v5 v6 v7 v8 1 σ
set_option maxHeartbeats 4000000 in
theorem t_jX12_findEdges_104 {G : rG} {ad : Nat → Nat} {o : (Unit × rS)} (k33 : Int32 → Int32 → Int32 → rS → Option (Unit × rS)) (k46 : Int32 → Int32 → Int32 → Int32 → Int32 → rS → Option (Unit × rS)) (k61 : Int32 → Int32 → Int32 → Int32 → Int32 → Int32 → rS → Option (Unit × rS)) (hk33 : ∀ (v1 : Int32) (v2 : Int32) (v3 : Int32) (σ : rS) (h : rH), Rep G ad σ h → k33 v1 v2 v3 σ = some o → RW G mX12_findEdges (rm 5 0 0) (qV G ad o) xN 0 0 33 [(0, .ref (ad 43)), (1, .int v1), (2, .int v2), (3, .int v3)] [] h) (hk46 : ∀ (v1 : Int32) (v2 : Int32) (v4 : Int32) (v5 : Int32) (v6 : Int32) (σ : rS) (h : rH), Rep G ad σ h → k46 v1 v2 v4 v5 v6 σ = some o → RW G mX12_findEdges (rm 5 0 0) (qV G ad o) xN 0 0 46 [(0, .ref (ad 43)), (1, .int v1), (2, .int v2), (4, .int v4), (5, .int v5), (6, .int v6)] [] h) (hk61 : ∀ (v1 : Int32) (v2 : Int32) (v4 : Int32) (v5 : Int32) (v6 : Int32) (v7 : Int32) (σ : rS) (h : rH), Rep G ad σ h → k61 v1 v2 v4 v5 v6 v7 σ = some o → RW G mX12_findEdges (rm 5 0 0) (qV G ad o) xN 0 0 61 [(0, .ref (ad 43)), (1, .int v1), (2, .int v2), (4, .int v4), (5, .int v5), (6, .int v6), (7, .int v7)] [] h) (v1 : Int32) (v2 : Int32) (v4 : Int32) (v5 : Int32) (v6 : Int32) (v7 : Int32) (v8 : Int32) (σ : rS) (h : rH) (hr : Rep G ad σ h) (hf : jX12_findEdges_104 k33 k46 k61 v1 v2 v4 v5 v6 v7 v8 σ = some o) : RW G mX12_findEdges (rm 5 0 0) (qV G ad o) xN 0 0 104 [(0, .ref (ad 43)), (1, .int v1), (2, .int v2), (4, .int v4), (5, .int v5), (6, .int v6), (7, .int v7), (8, .int v8)] [] h := by
  unfold jX12_findEdges_104 at hf
  refine rw_iconst (v := 1) dX12_findEdges_104 (by decide) ?_
  refine rw_goto (tgt := 109) dX12_findEdges_105 (by decide) ?_
  exact t_jX12_findEdges_109 (ad := ad) (G := G) k33 k46 k61 hk33 hk46 hk61 v1 v2 v4 v5 v6 v7 v8 1 σ _ hr hf
def lX12_findEdges_61 (k33 : Int32 → Int32 → Int32 → rS → Option (Unit × rS)) (k46 : Int32 → Int32 → Int32 → Int32 → Int32 → rS → Option (Unit × rS)) : Nat → Int32 → Int32 → Int32 → Int32 → Int32 → Int32 → rS → Option (Unit × rS)
  | 0, _, _, _, _, _, _, _ => none
  | n + 1, v1, v2, v4, v5, v6, v7, σ => if (σ.1 43 2) ≤ v7 then vI (v6 + 1) fun x19 => k46 v1 v2 v4 v5 x19 σ else (fX12_square v6 v7 σ).bind fun q20 => vI q20.1 fun x21 => if v1 < x21 then jX12_findEdges_104 k33 k46 (lX12_findEdges_61 k33 k46 n) v1 v2 v4 v5 v6 v7 x21 q20.2 else if x21 = v1 then if ((16 * v6) + v7) ≤ v2 then jX12_findEdges_108 k33 k46 (lX12_findEdges_61 k33 k46 n) v1 v2 v4 v5 v6 v7 x21 q20.2 else jX12_findEdges_104 k33 k46 (lX12_findEdges_61 k33 k46 n) v1 v2 v4 v5 v6 v7 x21 q20.2 else jX12_findEdges_108 k33 k46 (lX12_findEdges_61 k33 k46 n) v1 v2 v4 v5 v6 v7 x21 q20.2
set_option maxHeartbeats 4000000 in
theorem t_lX12_findEdges_61 {G : rG} {ad : Nat → Nat} {o : (Unit × rS)} (k33 : Int32 → Int32 → Int32 → rS → Option (Unit × rS)) (k46 : Int32 → Int32 → Int32 → Int32 → Int32 → rS → Option (Unit × rS)) (hk33 : ∀ (v1 : Int32) (v2 : Int32) (v3 : Int32) (σ : rS) (h : rH), Rep G ad σ h → k33 v1 v2 v3 σ = some o → RW G mX12_findEdges (rm 5 0 0) (qV G ad o) xN 0 0 33 [(0, .ref (ad 43)), (1, .int v1), (2, .int v2), (3, .int v3)] [] h) (hk46 : ∀ (v1 : Int32) (v2 : Int32) (v4 : Int32) (v5 : Int32) (v6 : Int32) (σ : rS) (h : rH), Rep G ad σ h → k46 v1 v2 v4 v5 v6 σ = some o → RW G mX12_findEdges (rm 5 0 0) (qV G ad o) xN 0 0 46 [(0, .ref (ad 43)), (1, .int v1), (2, .int v2), (4, .int v4), (5, .int v5), (6, .int v6)] [] h) : ∀ (n : Nat) (v1 : Int32) (v2 : Int32) (v4 : Int32) (v5 : Int32) (v6 : Int32) (v7 : Int32) (σ : rS) (h : rH), Rep G ad σ h → lX12_findEdges_61 k33 k46 n v1 v2 v4 v5 v6 v7 σ = some o → RW G mX12_findEdges (rm 5 0 0) (qV G ad o) xN 0 0 61 [(0, .ref (ad 43)), (1, .int v1), (2, .int v2), (4, .int v4), (5, .int v5), (6, .int v6), (7, .int v7)] [] h := by
  intro n
  induction n with
  | zero =>
    intro v1 v2 v4 v5 v6 v7 σ h hr hf
    rw [lX12_findEdges_61] at hf
    cases hf
  | succ n ih =>
    intro v1 v2 v4 v5 v6 v7 σ h hr hf
    rw [lX12_findEdges_61] at hf
    refine rw_iload dX12_findEdges_61 6 rfl ?_
    refine rw_aload_n dX12_findEdges_63 0 rfl rfl ?_
    refine sg_43_2 hr dX12_findEdges_64 fl1464 ?_
    refine rw_icmp_ge (tgt := 148) dX12_findEdges_67 (by decide) (fun c18 => ?_) (fun c18 => ?_)
    · rw [if_pos c18] at hf
      refine rw_iinc (v := v6 + 1) (lv2 := [(6, .int (v6 + 1)), (0, .ref (ad 43)), (1, .int v1), (2, .int v2), (4, .int v4), (5, .int v5), (7, .int v7)]) dX12_findEdges_148 5 rfl rfl (by decide) rfl ?_
      refine nmL hf (fun x19 hf => ?_)
      refine rw_goto (tgt := 46) dX12_findEdges_151 (by decide) ?_
      refine rw_sub [1, 2, 3, 4, 5, 0] rfl ?_
      exact hk46 v1 v2 v4 v5 x19 σ _ hr hf
    · rw [if_neg c18] at hf
      refine rw_aload_n dX12_findEdges_70 0 rfl rfl ?_
      refine rw_iload dX12_findEdges_71 5 rfl ?_
      refine rw_iload dX12_findEdges_73 6 rfl ?_
      obtain ⟨q20, hq20, hf⟩ := bnd hf
      refine kV_I (ad := ad) (As := [.int v6, .int v7]) (st := []) dX12_findEdges_75 calX12_square wm1657 wm1659 wm34 rfl rfl (rc_43 hr) (ci := 12) (by decide) rfl rfl (Nat.le_of_ble_eq_true rfl) ⟨⟨by decide, by decide⟩, by decide, by decide⟩ (cmX12_square hr hq20) (fun h hr => ?_)
      refine nmI hf (fun x21 hf => ?_)
      refine rw_istore (lv2 := [(8, .int x21), (0, .ref (ad 43)), (1, .int v1), (2, .int v2), (4, .int v4), (5, .int v5), (6, .int v6), (7, .int v7)]) dX12_findEdges_78 (by decide) rfl ?_
      refine rw_iload dX12_findEdges_80 0 rfl ?_
      refine rw_iload_n dX12_findEdges_82 2 rfl rfl ?_
      refine rw_icmp_gt (tgt := 104) dX12_findEdges_83 (by decide) (fun c22 => ?_) (fun c22 => ?_)
      · rw [if_pos c22] at hf
        refine rw_sub [1, 2, 3, 4, 5, 6, 7, 0] rfl ?_
        exact t_jX12_findEdges_104 (ad := ad) (G := G) k33 k46 (lX12_findEdges_61 k33 k46 n) hk33 hk46 ih v1 v2 v4 v5 v6 v7 x21 q20.2 _ hr hf
      · rw [if_neg c22] at hf
        refine rw_iload dX12_findEdges_86 0 rfl ?_
        refine rw_iload_n dX12_findEdges_88 2 rfl rfl ?_
        refine rw_icmp_ne (tgt := 108) dX12_findEdges_89 (by decide) (fun c23 => ?_) (fun c23 => ?_)
        · rw [if_neg c23] at hf
          refine rw_sub [1, 2, 3, 4, 5, 6, 7, 0] rfl ?_
          exact t_jX12_findEdges_108 (ad := ad) (G := G) k33 k46 (lX12_findEdges_61 k33 k46 n) hk33 hk46 ih v1 v2 v4 v5 v6 v7 x21 q20.2 _ hr hf
        · rw [if_pos c23] at hf
          refine rw_bipush (v := 16) dX12_findEdges_92 (by decide) ?_
          refine rw_iload dX12_findEdges_94 6 rfl ?_
          refine rw_imul dX12_findEdges_96 ?_
          refine rw_iload dX12_findEdges_97 7 rfl ?_
          refine rw_iadd dX12_findEdges_99 ?_
          refine rw_iload_n dX12_findEdges_100 3 rfl rfl ?_
          refine rw_icmp_le (tgt := 108) dX12_findEdges_101 (by decide) (fun c24 => ?_) (fun c24 => ?_)
          · rw [if_pos c24] at hf
            refine rw_sub [1, 2, 3, 4, 5, 6, 7, 0] rfl ?_
            exact t_jX12_findEdges_108 (ad := ad) (G := G) k33 k46 (lX12_findEdges_61 k33 k46 n) hk33 hk46 ih v1 v2 v4 v5 v6 v7 x21 q20.2 _ hr hf
          · rw [if_neg c24] at hf
            refine rw_sub [1, 2, 3, 4, 5, 6, 7, 0] rfl ?_
            exact t_jX12_findEdges_104 (ad := ad) (G := G) k33 k46 (lX12_findEdges_61 k33 k46 n) hk33 hk46 ih v1 v2 v4 v5 v6 v7 x21 q20.2 _ hr hf
def lX12_findEdges_46 (k33 : Int32 → Int32 → Int32 → rS → Option (Unit × rS)) : Nat → Int32 → Int32 → Int32 → Int32 → Int32 → rS → Option (Unit × rS)
  | 0, _, _, _, _, _, _ => none
  | n + 1, v1, v2, v4, v5, v6, σ => if (σ.1 43 2) ≤ v6 then if v4 < 0 then jX12_findEdges_164 k33 v4 v5 0 σ else jX12_findEdges_164 k33 v4 v5 1 σ else vI (v6 + 1) fun x9 => lX12_findEdges_61 k33 (lX12_findEdges_46 k33 n) 1000 v1 v2 v4 v5 v6 x9 σ
set_option maxHeartbeats 4000000 in
theorem t_lX12_findEdges_46 {G : rG} {ad : Nat → Nat} {o : (Unit × rS)} (k33 : Int32 → Int32 → Int32 → rS → Option (Unit × rS)) (hk33 : ∀ (v1 : Int32) (v2 : Int32) (v3 : Int32) (σ : rS) (h : rH), Rep G ad σ h → k33 v1 v2 v3 σ = some o → RW G mX12_findEdges (rm 5 0 0) (qV G ad o) xN 0 0 33 [(0, .ref (ad 43)), (1, .int v1), (2, .int v2), (3, .int v3)] [] h) : ∀ (n : Nat) (v1 : Int32) (v2 : Int32) (v4 : Int32) (v5 : Int32) (v6 : Int32) (σ : rS) (h : rH), Rep G ad σ h → lX12_findEdges_46 k33 n v1 v2 v4 v5 v6 σ = some o → RW G mX12_findEdges (rm 5 0 0) (qV G ad o) xN 0 0 46 [(0, .ref (ad 43)), (1, .int v1), (2, .int v2), (4, .int v4), (5, .int v5), (6, .int v6)] [] h := by
  intro n
  induction n with
  | zero =>
    intro v1 v2 v4 v5 v6 σ h hr hf
    rw [lX12_findEdges_46] at hf
    cases hf
  | succ n ih =>
    intro v1 v2 v4 v5 v6 σ h hr hf
    rw [lX12_findEdges_46] at hf
    refine rw_iload dX12_findEdges_46 5 rfl ?_
    refine rw_aload_n dX12_findEdges_48 0 rfl rfl ?_
    refine sg_43_2 hr dX12_findEdges_49 fl1464 ?_
    refine rw_icmp_ge (tgt := 154) dX12_findEdges_52 (by decide) (fun c7 => ?_) (fun c7 => ?_)
    · rw [if_pos c7] at hf
      refine rw_iload dX12_findEdges_154 3 rfl ?_
      refine rw_if_lt (tgt := 163) dX12_findEdges_156 (by decide) (fun c8 => ?_) (fun c8 => ?_)
      · rw [if_pos c8] at hf
        refine rw_iconst (v := 0) dX12_findEdges_163 (by decide) ?_
        refine rw_sub [0, 3, 4] rfl ?_
        exact t_jX12_findEdges_164 (ad := ad) (G := G) k33 hk33 v4 v5 0 σ _ hr hf
      · rw [if_neg c8] at hf
        refine rw_iconst (v := 1) dX12_findEdges_159 (by decide) ?_
        refine rw_goto (tgt := 164) dX12_findEdges_160 (by decide) ?_
        refine rw_sub [0, 3, 4] rfl ?_
        exact t_jX12_findEdges_164 (ad := ad) (G := G) k33 hk33 v4 v5 1 σ _ hr hf
    · rw [if_neg c7] at hf
      refine rw_iload dX12_findEdges_55 5 rfl ?_
      refine rw_iconst (v := 1) dX12_findEdges_57 (by decide) ?_
      refine rw_iadd dX12_findEdges_58 ?_
      refine nmI hf (fun x9 hf => ?_)
      refine rw_istore (lv2 := [(7, .int x9), (0, .ref (ad 43)), (1, .int v1), (2, .int v2), (4, .int v4), (5, .int v5), (6, .int v6)]) dX12_findEdges_59 (by decide) rfl ?_
      refine rw_sub [1, 2, 3, 4, 5, 6, 0] rfl ?_
      exact t_lX12_findEdges_61 (ad := ad) (G := G) k33 (lX12_findEdges_46 k33 n) hk33 ih 1000 v1 v2 v4 v5 v6 x9 σ _ hr hf
def lX12_findEdges_33  : Nat → Int32 → Int32 → Int32 → rS → Option (Unit × rS)
  | 0, _, _, _, _ => none
  | n + 1, v1, v2, v3, σ => if v3 = 0 then some ((), σ) else lX12_findEdges_46 (lX12_findEdges_33 n) 1000 v1 v2 ((-1)) 0 0 σ
set_option maxHeartbeats 4000000 in
theorem t_lX12_findEdges_33 {G : rG} {ad : Nat → Nat} {o : (Unit × rS)}   : ∀ (n : Nat) (v1 : Int32) (v2 : Int32) (v3 : Int32) (σ : rS) (h : rH), Rep G ad σ h → lX12_findEdges_33  n v1 v2 v3 σ = some o → RW G mX12_findEdges (rm 5 0 0) (qV G ad o) xN 0 0 33 [(0, .ref (ad 43)), (1, .int v1), (2, .int v2), (3, .int v3)] [] h := by
  intro n
  induction n with
  | zero =>
    intro v1 v2 v3 σ h hr hf
    rw [lX12_findEdges_33] at hf
    cases hf
  | succ n ih =>
    intro v1 v2 v3 σ h hr hf
    rw [lX12_findEdges_33] at hf
    refine rw_iload_n dX12_findEdges_33 3 rfl rfl ?_
    refine rw_if_eq (tgt := 209) dX12_findEdges_34 (by decide) (fun c6 => ?_) (fun c6 => ?_)
    · rw [if_pos c6] at hf
      replace hf := Option.some.inj hf
      subst hf
      exact rw_return dX12_findEdges_209 rfl ⟨rfl, hr⟩ (by decide) (by decide)
    · rw [if_neg c6] at hf
      refine rw_iconst (v := (-1)) dX12_findEdges_37 (by decide) ?_
      refine rw_istore (lv2 := [(4, .int ((-1))), (0, .ref (ad 43)), (1, .int v1), (2, .int v2), (3, .int v3)]) dX12_findEdges_38 (by decide) rfl ?_
      refine rw_iconst (v := 0) dX12_findEdges_40 (by decide) ?_
      refine rw_istore (lv2 := [(5, .int 0), (4, .int ((-1))), (0, .ref (ad 43)), (1, .int v1), (2, .int v2), (3, .int v3)]) dX12_findEdges_41 (by decide) rfl ?_
      refine rw_iconst (v := 0) dX12_findEdges_43 (by decide) ?_
      refine rw_istore (lv2 := [(6, .int 0), (5, .int 0), (4, .int ((-1))), (0, .ref (ad 43)), (1, .int v1), (2, .int v2), (3, .int v3)]) dX12_findEdges_44 (by decide) rfl ?_
      refine rw_sub [3, 4, 5, 2, 1, 0] rfl ?_
      exact t_lX12_findEdges_46 (ad := ad) (G := G) (lX12_findEdges_33 n) ih 1000 v1 v2 ((-1)) 0 0 σ _ hr hf
def lX12_findEdges_7  : Nat → Int32 → rS → Option (Unit × rS)
  | 0, _, _ => none
  | n + 1, v1, σ => if 256 ≤ v1 then lX12_findEdges_33 1000 ((-1)) ((-1)) 1 σ else if inB v1 256 then vS (uA σ 56 v1.toNatClampNeg ((-1))) fun σ4 => vI (v1 + 1) fun x5 => (lX12_findEdges_7 n) x5 σ4 else none
set_option maxHeartbeats 4000000 in
theorem t_lX12_findEdges_7 {G : rG} {ad : Nat → Nat} {o : (Unit × rS)}   : ∀ (n : Nat) (v1 : Int32) (σ : rS) (h : rH), Rep G ad σ h → lX12_findEdges_7  n v1 σ = some o → RW G mX12_findEdges (rm 5 0 0) (qV G ad o) xN 0 0 7 [(0, .ref (ad 43)), (1, .int v1)] [] h := by
  intro n
  induction n with
  | zero =>
    intro v1 σ h hr hf
    rw [lX12_findEdges_7] at hf
    cases hf
  | succ n ih =>
    intro v1 σ h hr hf
    rw [lX12_findEdges_7] at hf
    refine rw_iload_n dX12_findEdges_7 1 rfl rfl ?_
    refine rw_sipush (v := 256) dX12_findEdges_8 (by decide) ?_
    refine rw_icmp_ge (tgt := 27) dX12_findEdges_11 (by decide) (fun c2 => ?_) (fun c2 => ?_)
    · rw [if_pos c2] at hf
      refine rw_iconst (v := (-1)) dX12_findEdges_27 (by decide) ?_
      refine rw_istore_n (lv2 := [(1, .int ((-1))), (0, .ref (ad 43))]) dX12_findEdges_28 rfl (by decide) rfl ?_
      refine rw_iconst (v := (-1)) dX12_findEdges_29 (by decide) ?_
      refine rw_istore_n (lv2 := [(2, .int ((-1))), (1, .int ((-1))), (0, .ref (ad 43))]) dX12_findEdges_30 rfl (by decide) rfl ?_
      refine rw_iconst (v := 1) dX12_findEdges_31 (by decide) ?_
      refine rw_istore_n (lv2 := [(3, .int 1), (2, .int ((-1))), (1, .int ((-1))), (0, .ref (ad 43))]) dX12_findEdges_32 rfl (by decide) rfl ?_
      refine rw_sub [3, 2, 1, 0] rfl ?_
      exact t_lX12_findEdges_33 (ad := ad) (G := G)  1000 ((-1)) ((-1)) 1 σ _ hr hf
    · rw [if_neg c2] at hf
      refine rw_aload_n dX12_findEdges_14 0 rfl rfl ?_
      refine sg_43_20 hr dX12_findEdges_15 fl1482 ?_
      refine rw_iload_n dX12_findEdges_18 1 rfl rfl ?_
      refine rw_iconst (v := (-1)) dX12_findEdges_19 (by decide) ?_
      obtain ⟨hi3, hf⟩ := grd hf
      refine ss_56 hr dX12_findEdges_20 (inB_in hi3) (fun h hr => ?_)
      refine nmS hf hr (fun σ4 hr hf => ?_)
      refine rw_iinc (v := v1 + 1) (lv2 := [(1, .int (v1 + 1)), (0, .ref (ad 43))]) dX12_findEdges_21 1 rfl rfl (by decide) rfl ?_
      refine nmL hf (fun x5 hf => ?_)
      refine rw_goto (tgt := 7) dX12_findEdges_24 (by decide) ?_
      refine rw_sub [1, 0] rfl ?_
      exact ih x5 σ4 _ hr hf
def fX12_findEdges  (σ : rS) : Option (Unit × rS) := vS (uI σ 43 16 0) fun σ1 => lX12_findEdges_7 1000 0 σ1
set_option maxHeartbeats 4000000 in
theorem cmX12_findEdges {G : rG} {ad : Nat → Nat}  {σ : rS} {h : rH} {o : (Unit × rS)} (hr : Rep G ad σ h) (hf : fX12_findEdges  σ = some o) : rMT G mX12_findEdges (rm 5 0 0) [.ref (ad 43)] h (qV G ad o) xN := by
  unfold fX12_findEdges at hf
  refine rw_met (by decide +kernel) rfl (Nat.le_of_ble_eq_true rfl) ?_
  show RW G _ _ _ _ 0 0 0 [(0, .ref (ad 43))] [] h
  refine rw_aload_n dX12_findEdges_0 0 rfl rfl ?_
  refine rw_iconst (v := 0) dX12_findEdges_1 (by decide) ?_
  refine sp_43_16 hr dX12_findEdges_2 fl1478 (fun h hr => ?_)
  refine nmS hf hr (fun σ1 hr hf => ?_)
  refine rw_iconst (v := 0) dX12_findEdges_5 (by decide) ?_
  refine rw_istore_n (lv2 := [(1, .int 0), (0, .ref (ad 43))]) dX12_findEdges_6 rfl (by decide) rfl ?_
  refine rw_sub [1, 0] rfl ?_
  exact t_lX12_findEdges_7 (ad := ad) (G := G)  1000 0 σ1 _ hr hf
def jX12_areNeighbours_39  (s0 : Int32) (σ : rS) : Option (Int32 × rS) := if s0 = 0 ∨ s0 = 1 then some (s0, σ) else none
set_option maxHeartbeats 4000000 in
theorem t_jX12_areNeighbours_39 {G : rG} {ad : Nat → Nat} {o : (Int32 × rS)}   (s0 : Int32) (σ : rS) (h : rH) (hr : Rep G ad σ h) (hf : jX12_areNeighbours_39  s0 σ = some o) : RW G mX12_areNeighbours (rm 0 0 0) (qI G ad o) xN 0 0 39 [] [.int s0] h := by
  unfold jX12_areNeighbours_39 at hf
  obtain ⟨hz6, hf⟩ := grd hf
  replace hf := Option.some.inj hf
  subst hf
  exact rw_zreturn dX12_areNeighbours_39 rfl (nar_z hz6) ⟨rfl, hr⟩ (by decide) (by decide)
def jX12_areNeighbours_38   (σ : rS) : Option (Int32 × rS) := jX12_areNeighbours_39 0 σ
set_option maxHeartbeats 4000000 in
theorem t_jX12_areNeighbours_38 {G : rG} {ad : Nat → Nat} {o : (Int32 × rS)}    (σ : rS) (h : rH) (hr : Rep G ad σ h) (hf : jX12_areNeighbours_38   σ = some o) : RW G mX12_areNeighbours (rm 0 0 0) (qI G ad o) xN 0 0 38 [] [] h := by
  unfold jX12_areNeighbours_38 at hf
  refine rw_iconst (v := 0) dX12_areNeighbours_38 (by decide) ?_
  exact t_jX12_areNeighbours_39 (ad := ad) (G := G)  0 σ _ hr hf
def fX12_areNeighbours (a0 : Int32) (a1 : Int32) (σ : rS) : Option (Int32 × rS) := if inB ((16 * a0) + a1) 256 then (if (σ.2.2.1 56 ((16 * a0) + a1).toNatClampNeg) = ((-1)) then jX12_areNeighbours_38 σ else if inB ((16 * a0) + a1) 256 then if inB (σ.2.2.1 56 ((16 * a0) + a1).toNatClampNeg) 120 then (if (σ.2.2.1 55 (σ.2.2.1 56 ((16 * a0) + a1).toNatClampNeg).toNatClampNeg) = 0 then jX12_areNeighbours_39 1 σ else jX12_areNeighbours_38 σ) else none else none) else none
set_option maxHeartbeats 4000000 in
theorem cmX12_areNeighbours {G : rG} {ad : Nat → Nat} {a0 : Int32} {a1 : Int32} {σ : rS} {h : rH} {o : (Int32 × rS)} (hr : Rep G ad σ h) (hf : fX12_areNeighbours a0 a1 σ = some o) : rMT G mX12_areNeighbours (rm 0 0 0) [.ref (ad 43), .int a0, .int a1] h (qI G ad o) xN := by
  unfold fX12_areNeighbours at hf
  refine rw_met (by decide +kernel) rfl (Nat.le_of_ble_eq_true rfl) ?_
  show RW G _ _ _ _ 0 0 0 [(0, .ref (ad 43)), (1, .int a0), (2, .int a1)] [] h
  refine rw_aload_n dX12_areNeighbours_0 0 rfl rfl ?_
  refine sg_43_20 hr dX12_areNeighbours_1 fl1482 ?_
  refine rw_bipush (v := 16) dX12_areNeighbours_4 (by decide) ?_
  refine rw_iload_n dX12_areNeighbours_6 1 rfl rfl ?_
  refine rw_imul dX12_areNeighbours_7 ?_
  refine rw_iload_n dX12_areNeighbours_8 2 rfl rfl ?_
  refine rw_iadd dX12_areNeighbours_9 ?_
  obtain ⟨hi1, hf⟩ := grd hf
  refine sl_56 hr dX12_areNeighbours_10 (inB_in hi1) ?_
  refine rw_iconst (v := (-1)) dX12_areNeighbours_11 (by decide) ?_
  refine rw_icmp_eq (tgt := 38) dX12_areNeighbours_12 (by decide) (fun c2 => ?_) (fun c2 => ?_)
  · rw [if_pos c2] at hf
    refine rw_sub [] rfl ?_
    exact t_jX12_areNeighbours_38 (ad := ad) (G := G)  σ _ hr hf
  · rw [if_neg c2] at hf
    refine rw_aload_n dX12_areNeighbours_15 0 rfl rfl ?_
    refine sg_43_19 hr dX12_areNeighbours_16 fl1481 ?_
    refine rw_aload_n dX12_areNeighbours_19 0 rfl rfl ?_
    refine sg_43_20 hr dX12_areNeighbours_20 fl1482 ?_
    refine rw_bipush (v := 16) dX12_areNeighbours_23 (by decide) ?_
    refine rw_iload_n dX12_areNeighbours_25 1 rfl rfl ?_
    refine rw_imul dX12_areNeighbours_26 ?_
    refine rw_iload_n dX12_areNeighbours_27 2 rfl rfl ?_
    refine rw_iadd dX12_areNeighbours_28 ?_
    obtain ⟨hi3, hf⟩ := grd hf
    refine sl_56 hr dX12_areNeighbours_29 (inB_in hi3) ?_
    obtain ⟨hi4, hf⟩ := grd hf
    refine sl_55 hr dX12_areNeighbours_30 (inB_in hi4) ?_
    refine rw_if_ne (tgt := 38) dX12_areNeighbours_31 (by decide) (fun c5 => ?_) (fun c5 => ?_)
    · rw [if_neg c5] at hf
      refine rw_sub [] rfl ?_
      exact t_jX12_areNeighbours_38 (ad := ad) (G := G)  σ _ hr hf
    · rw [if_pos c5] at hf
      refine rw_iconst (v := 1) dX12_areNeighbours_34 (by decide) ?_
      refine rw_goto (tgt := 39) dX12_areNeighbours_35 (by decide) ?_
      refine rw_sub [] rfl ?_
      exact t_jX12_areNeighbours_39 (ad := ad) (G := G)  1 σ _ hr hf
def jX12_hasPlace_134  (s0 : Int32) (σ : rS) : Option (Int32 × rS) := if s0 = 0 ∨ s0 = 1 then some (s0, σ) else none
set_option maxHeartbeats 4000000 in
theorem t_jX12_hasPlace_134 {G : rG} {ad : Nat → Nat} {o : (Int32 × rS)}   (s0 : Int32) (σ : rS) (h : rH) (hr : Rep G ad σ h) (hf : jX12_hasPlace_134  s0 σ = some o) : RW G mX12_hasPlace (rm 2 0 0) (qI G ad o) xN 0 0 134 [] [.int s0] h := by
  unfold jX12_hasPlace_134 at hf
  obtain ⟨hz22, hf⟩ := grd hf
  replace hf := Option.some.inj hf
  subst hf
  exact rw_zreturn dX12_hasPlace_134 rfl (nar_z hz22) ⟨rfl, hr⟩ (by decide) (by decide)
def jX12_hasPlace_133   (σ : rS) : Option (Int32 × rS) := jX12_hasPlace_134 0 σ
set_option maxHeartbeats 4000000 in
theorem t_jX12_hasPlace_133 {G : rG} {ad : Nat → Nat} {o : (Int32 × rS)}    (σ : rS) (h : rH) (hr : Rep G ad σ h) (hf : jX12_hasPlace_133   σ = some o) : RW G mX12_hasPlace (rm 2 0 0) (qI G ad o) xN 0 0 133 [] [] h := by
  unfold jX12_hasPlace_133 at hf
  refine rw_iconst (v := 0) dX12_hasPlace_133 (by decide) ?_
  exact t_jX12_hasPlace_134 (ad := ad) (G := G)  0 σ _ hr hf
def jX12_hasPlace_129   (σ : rS) : Option (Int32 × rS) := jX12_hasPlace_134 1 σ
set_option maxHeartbeats 4000000 in
theorem t_jX12_hasPlace_129 {G : rG} {ad : Nat → Nat} {o : (Int32 × rS)}    (σ : rS) (h : rH) (hr : Rep G ad σ h) (hf : jX12_hasPlace_129   σ = some o) : RW G mX12_hasPlace (rm 2 0 0) (qI G ad o) xN 0 0 129 [] [] h := by
  unfold jX12_hasPlace_129 at hf
  refine rw_iconst (v := 1) dX12_hasPlace_129 (by decide) ?_
  refine rw_goto (tgt := 134) dX12_hasPlace_130 (by decide) ?_
  exact t_jX12_hasPlace_134 (ad := ad) (G := G)  1 σ _ hr hf
def jX12_hasPlace_114  (v6 : Int32) (v7 : Int32) (v8 : Int32) (σ : rS) : Option (Int32 × rS) := if 0 < v6 then jX12_hasPlace_133 σ else if 0 < v7 then jX12_hasPlace_133 σ else if 0 < v8 then jX12_hasPlace_133 σ else jX12_hasPlace_129 σ
set_option maxHeartbeats 4000000 in
theorem t_jX12_hasPlace_114 {G : rG} {ad : Nat → Nat} {o : (Int32 × rS)}   (v6 : Int32) (v7 : Int32) (v8 : Int32) (σ : rS) (h : rH) (hr : Rep G ad σ h) (hf : jX12_hasPlace_114  v6 v7 v8 σ = some o) : RW G mX12_hasPlace (rm 2 0 0) (qI G ad o) xN 0 0 114 [(6, .int v6), (7, .int v7), (8, .int v8)] [] h := by
  unfold jX12_hasPlace_114 at hf
  refine rw_iload dX12_hasPlace_114 0 rfl ?_
  refine rw_if_gt (tgt := 133) dX12_hasPlace_116 (by decide) (fun c23 => ?_) (fun c23 => ?_)
  · rw [if_pos c23] at hf
    refine rw_sub [] rfl ?_
    exact t_jX12_hasPlace_133 (ad := ad) (G := G)  σ _ hr hf
  · rw [if_neg c23] at hf
    refine rw_iload dX12_hasPlace_119 1 rfl ?_
    refine rw_if_gt (tgt := 133) dX12_hasPlace_121 (by decide) (fun c24 => ?_) (fun c24 => ?_)
    · rw [if_pos c24] at hf
      refine rw_sub [] rfl ?_
      exact t_jX12_hasPlace_133 (ad := ad) (G := G)  σ _ hr hf
    · rw [if_neg c24] at hf
      refine rw_iload dX12_hasPlace_124 2 rfl ?_
      refine rw_if_gt (tgt := 133) dX12_hasPlace_126 (by decide) (fun c25 => ?_) (fun c25 => ?_)
      · rw [if_pos c25] at hf
        refine rw_sub [] rfl ?_
        exact t_jX12_hasPlace_133 (ad := ad) (G := G)  σ _ hr hf
      · rw [if_neg c25] at hf
        refine rw_sub [] rfl ?_
        exact t_jX12_hasPlace_129 (ad := ad) (G := G)  σ _ hr hf
def fX12_hasPlace (a0 : Int32) (a1 : Int32) (a2 : Int32) (a3 : Int32) (a4 : Int32) (σ : rS) : Option (Int32 × rS) := if inB a0 16 then if inB a0 16 then if inB a1 16 then if inB a1 16 then (fX12_side (σ.2.2.1 44 a0.toNatClampNeg) (σ.2.2.1 45 a0.toNatClampNeg) (σ.2.2.1 44 a1.toNatClampNeg) (σ.2.2.1 45 a1.toNatClampNeg) a3 a4 σ).bind fun q5 => vI q5.1 fun x6 => if inB a1 16 then if inB a1 16 then if inB a2 16 then if inB a2 16 then (fX12_side (q5.2.2.2.1 44 a1.toNatClampNeg) (q5.2.2.2.1 45 a1.toNatClampNeg) (q5.2.2.2.1 44 a2.toNatClampNeg) (q5.2.2.2.1 45 a2.toNatClampNeg) a3 a4 q5.2).bind fun q11 => vI q11.1 fun x12 => if inB a2 16 then if inB a2 16 then if inB a0 16 then if inB a0 16 then (fX12_side (q11.2.2.2.1 44 a2.toNatClampNeg) (q11.2.2.2.1 45 a2.toNatClampNeg) (q11.2.2.2.1 44 a0.toNatClampNeg) (q11.2.2.2.1 45 a0.toNatClampNeg) a3 a4 q11.2).bind fun q17 => vI q17.1 fun x18 => (if x6 < 0 then jX12_hasPlace_114 x6 x12 x18 q17.2 else if x12 < 0 then jX12_hasPlace_114 x6 x12 x18 q17.2 else if 0 ≤ x18 then jX12_hasPlace_129 q17.2 else jX12_hasPlace_114 x6 x12 x18 q17.2) else none else none else none else none else none else none else none else none else none else none else none else none
set_option maxHeartbeats 4000000 in
theorem cmX12_hasPlace {G : rG} {ad : Nat → Nat} {a0 : Int32} {a1 : Int32} {a2 : Int32} {a3 : Int32} {a4 : Int32} {σ : rS} {h : rH} {o : (Int32 × rS)} (hr : Rep G ad σ h) (hf : fX12_hasPlace a0 a1 a2 a3 a4 σ = some o) : rMT G mX12_hasPlace (rm 2 0 0) [.ref (ad 43), .int a0, .int a1, .int a2, .int a3, .int a4] h (qI G ad o) xN := by
  unfold fX12_hasPlace at hf
  refine rw_met (by decide +kernel) rfl (Nat.le_of_ble_eq_true rfl) ?_
  show RW G _ _ _ _ 0 0 0 [(0, .ref (ad 43)), (1, .int a0), (2, .int a1), (3, .int a2), (4, .int a3), (5, .int a4)] [] h
  refine rw_aload_n dX12_hasPlace_0 0 rfl rfl ?_
  refine sg_43_3 hr dX12_hasPlace_1 fl1465 ?_
  refine rw_iload_n dX12_hasPlace_4 1 rfl rfl ?_
  obtain ⟨hi1, hf⟩ := grd hf
  refine sl_44 hr dX12_hasPlace_5 (inB_in hi1) ?_
  refine rw_aload_n dX12_hasPlace_6 0 rfl rfl ?_
  refine sg_43_4 hr dX12_hasPlace_7 fl1466 ?_
  refine rw_iload_n dX12_hasPlace_10 1 rfl rfl ?_
  obtain ⟨hi2, hf⟩ := grd hf
  refine sl_45 hr dX12_hasPlace_11 (inB_in hi2) ?_
  refine rw_aload_n dX12_hasPlace_12 0 rfl rfl ?_
  refine sg_43_3 hr dX12_hasPlace_13 fl1465 ?_
  refine rw_iload_n dX12_hasPlace_16 2 rfl rfl ?_
  obtain ⟨hi3, hf⟩ := grd hf
  refine sl_44 hr dX12_hasPlace_17 (inB_in hi3) ?_
  refine rw_aload_n dX12_hasPlace_18 0 rfl rfl ?_
  refine sg_43_4 hr dX12_hasPlace_19 fl1466 ?_
  refine rw_iload_n dX12_hasPlace_22 2 rfl rfl ?_
  obtain ⟨hi4, hf⟩ := grd hf
  refine sl_45 hr dX12_hasPlace_23 (inB_in hi4) ?_
  refine rw_iload dX12_hasPlace_24 4 rfl ?_
  refine rw_iload dX12_hasPlace_26 5 rfl ?_
  obtain ⟨q5, hq5, hf⟩ := bnd hf
  refine kS_I (ad := ad) (As := [.int (σ.2.2.1 44 a0.toNatClampNeg), .int (σ.2.2.1 45 a0.toNatClampNeg), .int (σ.2.2.1 44 a1.toNatClampNeg), .int (σ.2.2.1 45 a1.toNatClampNeg), .int a3, .int a4]) (st := []) dX12_hasPlace_28 calX12_side wm1668 wm1669 rfl rfl (Nat.le_of_ble_eq_true rfl) ⟨⟨by decide, by decide⟩, by decide, by decide⟩ (cmX12_side hr hq5) (fun h hr => ?_)
  refine nmI hf (fun x6 hf => ?_)
  refine rw_istore (lv2 := [(6, .int x6), (0, .ref (ad 43)), (1, .int a0), (2, .int a1), (3, .int a2), (4, .int a3), (5, .int a4)]) dX12_hasPlace_31 (by decide) rfl ?_
  refine rw_aload_n dX12_hasPlace_33 1 rfl rfl ?_
  refine sg_43_3 hr dX12_hasPlace_34 fl1465 ?_
  refine rw_iload_n dX12_hasPlace_37 3 rfl rfl ?_
  obtain ⟨hi7, hf⟩ := grd hf
  refine sl_44 hr dX12_hasPlace_38 (inB_in hi7) ?_
  refine rw_aload_n dX12_hasPlace_39 1 rfl rfl ?_
  refine sg_43_4 hr dX12_hasPlace_40 fl1466 ?_
  refine rw_iload_n dX12_hasPlace_43 3 rfl rfl ?_
  obtain ⟨hi8, hf⟩ := grd hf
  refine sl_45 hr dX12_hasPlace_44 (inB_in hi8) ?_
  refine rw_aload_n dX12_hasPlace_45 1 rfl rfl ?_
  refine sg_43_3 hr dX12_hasPlace_46 fl1465 ?_
  refine rw_iload_n dX12_hasPlace_49 4 rfl rfl ?_
  obtain ⟨hi9, hf⟩ := grd hf
  refine sl_44 hr dX12_hasPlace_50 (inB_in hi9) ?_
  refine rw_aload_n dX12_hasPlace_51 1 rfl rfl ?_
  refine sg_43_4 hr dX12_hasPlace_52 fl1466 ?_
  refine rw_iload_n dX12_hasPlace_55 4 rfl rfl ?_
  obtain ⟨hi10, hf⟩ := grd hf
  refine sl_45 hr dX12_hasPlace_56 (inB_in hi10) ?_
  refine rw_iload dX12_hasPlace_57 5 rfl ?_
  refine rw_iload dX12_hasPlace_59 6 rfl ?_
  obtain ⟨q11, hq11, hf⟩ := bnd hf
  refine kS_I (ad := ad) (As := [.int (q5.2.2.2.1 44 a1.toNatClampNeg), .int (q5.2.2.2.1 45 a1.toNatClampNeg), .int (q5.2.2.2.1 44 a2.toNatClampNeg), .int (q5.2.2.2.1 45 a2.toNatClampNeg), .int a3, .int a4]) (st := []) dX12_hasPlace_61 calX12_side wm1668 wm1669 rfl rfl (Nat.le_of_ble_eq_true rfl) ⟨⟨by decide, by decide⟩, by decide, by decide⟩ (cmX12_side hr hq11) (fun h hr => ?_)
  refine nmI hf (fun x12 hf => ?_)
  refine rw_istore (lv2 := [(7, .int x12), (6, .int x6), (0, .ref (ad 43)), (1, .int a0), (2, .int a1), (3, .int a2), (4, .int a3), (5, .int a4)]) dX12_hasPlace_64 (by decide) rfl ?_
  refine rw_aload_n dX12_hasPlace_66 2 rfl rfl ?_
  refine sg_43_3 hr dX12_hasPlace_67 fl1465 ?_
  refine rw_iload_n dX12_hasPlace_70 5 rfl rfl ?_
  obtain ⟨hi13, hf⟩ := grd hf
  refine sl_44 hr dX12_hasPlace_71 (inB_in hi13) ?_
  refine rw_aload_n dX12_hasPlace_72 2 rfl rfl ?_
  refine sg_43_4 hr dX12_hasPlace_73 fl1466 ?_
  refine rw_iload_n dX12_hasPlace_76 5 rfl rfl ?_
  obtain ⟨hi14, hf⟩ := grd hf
  refine sl_45 hr dX12_hasPlace_77 (inB_in hi14) ?_
  refine rw_aload_n dX12_hasPlace_78 2 rfl rfl ?_
  refine sg_43_3 hr dX12_hasPlace_79 fl1465 ?_
  refine rw_iload_n dX12_hasPlace_82 3 rfl rfl ?_
  obtain ⟨hi15, hf⟩ := grd hf
  refine sl_44 hr dX12_hasPlace_83 (inB_in hi15) ?_
  refine rw_aload_n dX12_hasPlace_84 2 rfl rfl ?_
  refine sg_43_4 hr dX12_hasPlace_85 fl1466 ?_
  refine rw_iload_n dX12_hasPlace_88 3 rfl rfl ?_
  obtain ⟨hi16, hf⟩ := grd hf
  refine sl_45 hr dX12_hasPlace_89 (inB_in hi16) ?_
  refine rw_iload dX12_hasPlace_90 6 rfl ?_
  refine rw_iload dX12_hasPlace_92 7 rfl ?_
  obtain ⟨q17, hq17, hf⟩ := bnd hf
  refine kS_I (ad := ad) (As := [.int (q11.2.2.2.1 44 a2.toNatClampNeg), .int (q11.2.2.2.1 45 a2.toNatClampNeg), .int (q11.2.2.2.1 44 a0.toNatClampNeg), .int (q11.2.2.2.1 45 a0.toNatClampNeg), .int a3, .int a4]) (st := []) dX12_hasPlace_94 calX12_side wm1668 wm1669 rfl rfl (Nat.le_of_ble_eq_true rfl) ⟨⟨by decide, by decide⟩, by decide, by decide⟩ (cmX12_side hr hq17) (fun h hr => ?_)
  refine nmI hf (fun x18 hf => ?_)
  refine rw_istore (lv2 := [(8, .int x18), (7, .int x12), (6, .int x6), (0, .ref (ad 43)), (1, .int a0), (2, .int a1), (3, .int a2), (4, .int a3), (5, .int a4)]) dX12_hasPlace_97 (by decide) rfl ?_
  refine rw_iload dX12_hasPlace_99 2 rfl ?_
  refine rw_if_lt (tgt := 114) dX12_hasPlace_101 (by decide) (fun c19 => ?_) (fun c19 => ?_)
  · rw [if_pos c19] at hf
    refine rw_sub [2, 1, 0] rfl ?_
    exact t_jX12_hasPlace_114 (ad := ad) (G := G)  x6 x12 x18 q17.2 _ hr hf
  · rw [if_neg c19] at hf
    refine rw_iload dX12_hasPlace_104 1 rfl ?_
    refine rw_if_lt (tgt := 114) dX12_hasPlace_106 (by decide) (fun c20 => ?_) (fun c20 => ?_)
    · rw [if_pos c20] at hf
      refine rw_sub [2, 1, 0] rfl ?_
      exact t_jX12_hasPlace_114 (ad := ad) (G := G)  x6 x12 x18 q17.2 _ hr hf
    · rw [if_neg c20] at hf
      refine rw_iload dX12_hasPlace_109 0 rfl ?_
      refine rw_if_ge (tgt := 129) dX12_hasPlace_111 (by decide) (fun c21 => ?_) (fun c21 => ?_)
      · rw [if_pos c21] at hf
        refine rw_sub [] rfl ?_
        exact t_jX12_hasPlace_129 (ad := ad) (G := G)  q17.2 _ hr hf
      · rw [if_neg c21] at hf
        refine rw_sub [2, 1, 0] rfl ?_
        exact t_jX12_hasPlace_114 (ad := ad) (G := G)  x6 x12 x18 q17.2 _ hr hf
def jX12_isTriangle_138 (k77 : Int32 → Int32 → Int32 → Int32 → Int32 → rS → Option (Int32 × rS)) (v1 : Int32) (v2 : Int32) (v3 : Int32) (v5 : Int32) (s0 : Int32) (σ : rS) : Option (Int32 × rS) := vI (v5 + 1) fun x25 => k77 v1 v2 v3 s0 x25 σ
set_option maxHeartbeats 4000000 in
theorem t_jX12_isTriangle_138 {G : rG} {ad : Nat → Nat} {o : (Int32 × rS)} (k77 : Int32 → Int32 → Int32 → Int32 → Int32 → rS → Option (Int32 × rS)) (hk77 : ∀ (v1 : Int32) (v2 : Int32) (v3 : Int32) (v4 : Int32) (v5 : Int32) (σ : rS) (h : rH), Rep G ad σ h → k77 v1 v2 v3 v4 v5 σ = some o → RW G mX12_isTriangle (rm 3 0 0) (qI G ad o) xN 0 0 77 [(0, .ref (ad 43)), (1, .int v1), (2, .int v2), (3, .int v3), (4, .int v4), (5, .int v5)] [] h) (v1 : Int32) (v2 : Int32) (v3 : Int32) (v5 : Int32) (s0 : Int32) (σ : rS) (h : rH) (hr : Rep G ad σ h) (hf : jX12_isTriangle_138 k77 v1 v2 v3 v5 s0 σ = some o) : RW G mX12_isTriangle (rm 3 0 0) (qI G ad o) xN 0 0 138 [(0, .ref (ad 43)), (1, .int v1), (2, .int v2), (3, .int v3), (5, .int v5)] [.int s0] h := by
  unfold jX12_isTriangle_138 at hf
  refine rw_istore (lv2 := [(4, .int s0), (0, .ref (ad 43)), (1, .int v1), (2, .int v2), (3, .int v3), (5, .int v5)]) dX12_isTriangle_138 (by decide) rfl ?_
  refine rw_iinc (v := v5 + 1) (lv2 := [(5, .int (v5 + 1)), (4, .int s0), (0, .ref (ad 43)), (1, .int v1), (2, .int v2), (3, .int v3)]) dX12_isTriangle_140 5 rfl rfl (by decide) rfl ?_
  refine nmL hf (fun x25 hf => ?_)
  refine rw_goto (tgt := 77) dX12_isTriangle_143 (by decide) ?_
  refine rw_sub [2, 3, 4, 5, 1, 0] rfl ?_
  exact hk77 v1 v2 v3 s0 x25 σ _ hr hf
def jX12_isTriangle_137 (k77 : Int32 → Int32 → Int32 → Int32 → Int32 → rS → Option (Int32 × rS)) (v1 : Int32) (v2 : Int32) (v3 : Int32) (v5 : Int32) (σ : rS) : Option (Int32 × rS) := jX12_isTriangle_138 k77 v1 v2 v3 v5 0 σ
set_option maxHeartbeats 4000000 in
theorem t_jX12_isTriangle_137 {G : rG} {ad : Nat → Nat} {o : (Int32 × rS)} (k77 : Int32 → Int32 → Int32 → Int32 → Int32 → rS → Option (Int32 × rS)) (hk77 : ∀ (v1 : Int32) (v2 : Int32) (v3 : Int32) (v4 : Int32) (v5 : Int32) (σ : rS) (h : rH), Rep G ad σ h → k77 v1 v2 v3 v4 v5 σ = some o → RW G mX12_isTriangle (rm 3 0 0) (qI G ad o) xN 0 0 77 [(0, .ref (ad 43)), (1, .int v1), (2, .int v2), (3, .int v3), (4, .int v4), (5, .int v5)] [] h) (v1 : Int32) (v2 : Int32) (v3 : Int32) (v5 : Int32) (σ : rS) (h : rH) (hr : Rep G ad σ h) (hf : jX12_isTriangle_137 k77 v1 v2 v3 v5 σ = some o) : RW G mX12_isTriangle (rm 3 0 0) (qI G ad o) xN 0 0 137 [(0, .ref (ad 43)), (1, .int v1), (2, .int v2), (3, .int v3), (5, .int v5)] [] h := by
  unfold jX12_isTriangle_137 at hf
  refine rw_iconst (v := 0) dX12_isTriangle_137 (by decide) ?_
  exact t_jX12_isTriangle_138 (ad := ad) (G := G) k77 hk77 v1 v2 v3 v5 0 σ _ hr hf
def jX12_isTriangle_133 (k77 : Int32 → Int32 → Int32 → Int32 → Int32 → rS → Option (Int32 × rS)) (v1 : Int32) (v2 : Int32) (v3 : Int32) (v5 : Int32) (σ : rS) : Option (Int32 × rS) := jX12_isTriangle_138 k77 v1 v2 v3 v5 1 σ
set_option maxHeartbeats 4000000 in
theorem t_jX12_isTriangle_133 {G : rG} {ad : Nat → Nat} {o : (Int32 × rS)} (k77 : Int32 → Int32 → Int32 → Int32 → Int32 → rS → Option (Int32 × rS)) (hk77 : ∀ (v1 : Int32) (v2 : Int32) (v3 : Int32) (v4 : Int32) (v5 : Int32) (σ : rS) (h : rH), Rep G ad σ h → k77 v1 v2 v3 v4 v5 σ = some o → RW G mX12_isTriangle (rm 3 0 0) (qI G ad o) xN 0 0 77 [(0, .ref (ad 43)), (1, .int v1), (2, .int v2), (3, .int v3), (4, .int v4), (5, .int v5)] [] h) (v1 : Int32) (v2 : Int32) (v3 : Int32) (v5 : Int32) (σ : rS) (h : rH) (hr : Rep G ad σ h) (hf : jX12_isTriangle_133 k77 v1 v2 v3 v5 σ = some o) : RW G mX12_isTriangle (rm 3 0 0) (qI G ad o) xN 0 0 133 [(0, .ref (ad 43)), (1, .int v1), (2, .int v2), (3, .int v3), (5, .int v5)] [] h := by
  unfold jX12_isTriangle_133 at hf
  refine rw_iconst (v := 1) dX12_isTriangle_133 (by decide) ?_
  refine rw_goto (tgt := 138) dX12_isTriangle_134 (by decide) ?_
  exact t_jX12_isTriangle_138 (ad := ad) (G := G) k77 hk77 v1 v2 v3 v5 1 σ _ hr hf
def lX12_isTriangle_77  : Nat → Int32 → Int32 → Int32 → Int32 → Int32 → rS → Option (Int32 × rS)
  | 0, _, _, _, _, _, _ => none
  | n + 1, v1, v2, v3, v4, v5, σ => if (σ.1 43 2) ≤ v5 then if v4 = 0 ∨ v4 = 1 then some (v4, σ) else none else if v4 = 0 then jX12_isTriangle_137 (lX12_isTriangle_77 n) v1 v2 v3 v5 σ else if v5 = v1 then jX12_isTriangle_133 (lX12_isTriangle_77 n) v1 v2 v3 v5 σ else if v5 = v2 then jX12_isTriangle_133 (lX12_isTriangle_77 n) v1 v2 v3 v5 σ else if v5 = v3 then jX12_isTriangle_133 (lX12_isTriangle_77 n) v1 v2 v3 v5 σ else if inB v5 16 then if inB v5 16 then (fX12_hasPlace v1 v2 v3 (σ.2.2.1 44 v5.toNatClampNeg) (σ.2.2.1 45 v5.toNatClampNeg) σ).bind fun q23 => (if q23.1 = 0 then jX12_isTriangle_133 (lX12_isTriangle_77 n) v1 v2 v3 v5 q23.2 else jX12_isTriangle_137 (lX12_isTriangle_77 n) v1 v2 v3 v5 q23.2) else none else none
set_option maxHeartbeats 4000000 in
theorem t_lX12_isTriangle_77 {G : rG} {ad : Nat → Nat} {o : (Int32 × rS)}   : ∀ (n : Nat) (v1 : Int32) (v2 : Int32) (v3 : Int32) (v4 : Int32) (v5 : Int32) (σ : rS) (h : rH), Rep G ad σ h → lX12_isTriangle_77  n v1 v2 v3 v4 v5 σ = some o → RW G mX12_isTriangle (rm 3 0 0) (qI G ad o) xN 0 0 77 [(0, .ref (ad 43)), (1, .int v1), (2, .int v2), (3, .int v3), (4, .int v4), (5, .int v5)] [] h := by
  intro n
  induction n with
  | zero =>
    intro v1 v2 v3 v4 v5 σ h hr hf
    rw [lX12_isTriangle_77] at hf
    cases hf
  | succ n ih =>
    intro v1 v2 v3 v4 v5 σ h hr hf
    rw [lX12_isTriangle_77] at hf
    refine rw_iload dX12_isTriangle_77 5 rfl ?_
    refine rw_aload_n dX12_isTriangle_79 0 rfl rfl ?_
    refine sg_43_2 hr dX12_isTriangle_80 fl1464 ?_
    refine rw_icmp_ge (tgt := 146) dX12_isTriangle_83 (by decide) (fun c15 => ?_) (fun c15 => ?_)
    · rw [if_pos c15] at hf
      refine rw_iload dX12_isTriangle_146 4 rfl ?_
      obtain ⟨hz16, hf⟩ := grd hf
      replace hf := Option.some.inj hf
      subst hf
      exact rw_zreturn dX12_isTriangle_148 rfl (nar_z hz16) ⟨rfl, hr⟩ (by decide) (by decide)
    · rw [if_neg c15] at hf
      refine rw_iload dX12_isTriangle_86 4 rfl ?_
      refine rw_if_eq (tgt := 137) dX12_isTriangle_88 (by decide) (fun c17 => ?_) (fun c17 => ?_)
      · rw [if_pos c17] at hf
        refine rw_sub [0, 1, 2, 3, 5] rfl ?_
        exact t_jX12_isTriangle_137 (ad := ad) (G := G) (lX12_isTriangle_77 n) ih v1 v2 v3 v5 σ _ hr hf
      · rw [if_neg c17] at hf
        refine rw_iload dX12_isTriangle_91 5 rfl ?_
        refine rw_iload_n dX12_isTriangle_93 1 rfl rfl ?_
        refine rw_icmp_eq (tgt := 133) dX12_isTriangle_94 (by decide) (fun c18 => ?_) (fun c18 => ?_)
        · rw [if_pos c18] at hf
          refine rw_sub [0, 1, 2, 3, 5] rfl ?_
          exact t_jX12_isTriangle_133 (ad := ad) (G := G) (lX12_isTriangle_77 n) ih v1 v2 v3 v5 σ _ hr hf
        · rw [if_neg c18] at hf
          refine rw_iload dX12_isTriangle_97 5 rfl ?_
          refine rw_iload_n dX12_isTriangle_99 2 rfl rfl ?_
          refine rw_icmp_eq (tgt := 133) dX12_isTriangle_100 (by decide) (fun c19 => ?_) (fun c19 => ?_)
          · rw [if_pos c19] at hf
            refine rw_sub [0, 1, 2, 3, 5] rfl ?_
            exact t_jX12_isTriangle_133 (ad := ad) (G := G) (lX12_isTriangle_77 n) ih v1 v2 v3 v5 σ _ hr hf
          · rw [if_neg c19] at hf
            refine rw_iload dX12_isTriangle_103 5 rfl ?_
            refine rw_iload_n dX12_isTriangle_105 3 rfl rfl ?_
            refine rw_icmp_eq (tgt := 133) dX12_isTriangle_106 (by decide) (fun c20 => ?_) (fun c20 => ?_)
            · rw [if_pos c20] at hf
              refine rw_sub [0, 1, 2, 3, 5] rfl ?_
              exact t_jX12_isTriangle_133 (ad := ad) (G := G) (lX12_isTriangle_77 n) ih v1 v2 v3 v5 σ _ hr hf
            · rw [if_neg c20] at hf
              refine rw_aload_n dX12_isTriangle_109 0 rfl rfl ?_
              refine rw_iload_n dX12_isTriangle_110 1 rfl rfl ?_
              refine rw_iload_n dX12_isTriangle_111 2 rfl rfl ?_
              refine rw_iload_n dX12_isTriangle_112 3 rfl rfl ?_
              refine rw_aload_n dX12_isTriangle_113 0 rfl rfl ?_
              refine sg_43_3 hr dX12_isTriangle_114 fl1465 ?_
              refine rw_iload dX12_isTriangle_117 5 rfl ?_
              obtain ⟨hi21, hf⟩ := grd hf
              refine sl_44 hr dX12_isTriangle_119 (inB_in hi21) ?_
              refine rw_aload_n dX12_isTriangle_120 0 rfl rfl ?_
              refine sg_43_4 hr dX12_isTriangle_121 fl1466 ?_
              refine rw_iload dX12_isTriangle_124 5 rfl ?_
              obtain ⟨hi22, hf⟩ := grd hf
              refine sl_45 hr dX12_isTriangle_126 (inB_in hi22) ?_
              obtain ⟨q23, hq23, hf⟩ := bnd hf
              refine kV_I (ad := ad) (As := [.int v1, .int v2, .int v3, .int (σ.2.2.1 44 v5.toNatClampNeg), .int (σ.2.2.1 45 v5.toNatClampNeg)]) (st := []) dX12_isTriangle_127 calX12_hasPlace wm1696 wm1698 wm40 rfl rfl (rc_43 hr) (ci := 12) (by decide) rfl rfl (Nat.le_of_ble_eq_true rfl) ⟨⟨by decide, by decide⟩, by decide, by decide⟩ (cmX12_hasPlace hr hq23) (fun h hr => ?_)
              refine rw_if_ne (tgt := 137) dX12_isTriangle_130 (by decide) (fun c24 => ?_) (fun c24 => ?_)
              · rw [if_neg c24] at hf
                refine rw_sub [0, 1, 2, 3, 5] rfl ?_
                exact t_jX12_isTriangle_137 (ad := ad) (G := G) (lX12_isTriangle_77 n) ih v1 v2 v3 v5 q23.2 _ hr hf
              · rw [if_pos c24] at hf
                refine rw_sub [0, 1, 2, 3, 5] rfl ?_
                exact t_jX12_isTriangle_133 (ad := ad) (G := G) (lX12_isTriangle_77 n) ih v1 v2 v3 v5 q23.2 _ hr hf
def jX12_isTriangle_69   (σ : rS) : Option (Int32 × rS) := some (0, σ)
set_option maxHeartbeats 4000000 in
theorem t_jX12_isTriangle_69 {G : rG} {ad : Nat → Nat} {o : (Int32 × rS)}    (σ : rS) (h : rH) (hr : Rep G ad σ h) (hf : jX12_isTriangle_69   σ = some o) : RW G mX12_isTriangle (rm 3 0 0) (qI G ad o) xN 0 0 69 [] [] h := by
  unfold jX12_isTriangle_69 at hf
  refine rw_iconst (v := 0) dX12_isTriangle_69 (by decide) ?_
  replace hf := Option.some.inj hf
  subst hf
  exact rw_zreturn dX12_isTriangle_70 rfl (by decide) ⟨rfl, hr⟩ (by decide) (by decide)
def fX12_isTriangle (a0 : Int32) (a1 : Int32) (a2 : Int32) (σ : rS) : Option (Int32 × rS) := (fX12_areNeighbours a0 a1 σ).bind fun q1 => if q1.1 = 0 then jX12_isTriangle_69 q1.2 else (fX12_areNeighbours a0 a2 q1.2).bind fun q3 => if q3.1 = 0 then jX12_isTriangle_69 q3.2 else (fX12_areNeighbours a1 a2 q3.2).bind fun q5 => if q5.1 = 0 then jX12_isTriangle_69 q5.2 else if inB a0 16 then if inB a0 16 then if inB a1 16 then if inB a1 16 then if inB a2 16 then if inB a2 16 then (fX12_side (q5.2.2.2.1 44 a0.toNatClampNeg) (q5.2.2.2.1 45 a0.toNatClampNeg) (q5.2.2.2.1 44 a1.toNatClampNeg) (q5.2.2.2.1 45 a1.toNatClampNeg) (q5.2.2.2.1 44 a2.toNatClampNeg) (q5.2.2.2.1 45 a2.toNatClampNeg) q5.2).bind fun q13 => (if q13.1 = 0 then jX12_isTriangle_69 q13.2 else lX12_isTriangle_77 1000 a0 a1 a2 1 0 q13.2) else none else none else none else none else none else none
set_option maxHeartbeats 4000000 in
theorem cmX12_isTriangle {G : rG} {ad : Nat → Nat} {a0 : Int32} {a1 : Int32} {a2 : Int32} {σ : rS} {h : rH} {o : (Int32 × rS)} (hr : Rep G ad σ h) (hf : fX12_isTriangle a0 a1 a2 σ = some o) : rMT G mX12_isTriangle (rm 3 0 0) [.ref (ad 43), .int a0, .int a1, .int a2] h (qI G ad o) xN := by
  unfold fX12_isTriangle at hf
  refine rw_met (by decide +kernel) rfl (Nat.le_of_ble_eq_true rfl) ?_
  show RW G _ _ _ _ 0 0 0 [(0, .ref (ad 43)), (1, .int a0), (2, .int a1), (3, .int a2)] [] h
  refine rw_aload_n dX12_isTriangle_0 0 rfl rfl ?_
  refine rw_iload_n dX12_isTriangle_1 1 rfl rfl ?_
  refine rw_iload_n dX12_isTriangle_2 2 rfl rfl ?_
  obtain ⟨q1, hq1, hf⟩ := bnd hf
  refine kV_I (ad := ad) (As := [.int a0, .int a1]) (st := []) dX12_isTriangle_3 calX12_areNeighbours wm1692 wm1694 wm39 rfl rfl (rc_43 hr) (ci := 12) (by decide) rfl rfl (Nat.le_of_ble_eq_true rfl) ⟨⟨by decide, by decide⟩, by decide, by decide⟩ (cmX12_areNeighbours hr hq1) (fun h hr => ?_)
  refine rw_if_eq (tgt := 69) dX12_isTriangle_6 (by decide) (fun c2 => ?_) (fun c2 => ?_)
  · rw [if_pos c2] at hf
    refine rw_sub [] rfl ?_
    exact t_jX12_isTriangle_69 (ad := ad) (G := G)  q1.2 _ hr hf
  · rw [if_neg c2] at hf
    refine rw_aload_n dX12_isTriangle_9 0 rfl rfl ?_
    refine rw_iload_n dX12_isTriangle_10 1 rfl rfl ?_
    refine rw_iload_n dX12_isTriangle_11 3 rfl rfl ?_
    obtain ⟨q3, hq3, hf⟩ := bnd hf
    refine kV_I (ad := ad) (As := [.int a0, .int a2]) (st := []) dX12_isTriangle_12 calX12_areNeighbours wm1692 wm1694 wm39 rfl rfl (rc_43 hr) (ci := 12) (by decide) rfl rfl (Nat.le_of_ble_eq_true rfl) ⟨⟨by decide, by decide⟩, by decide, by decide⟩ (cmX12_areNeighbours hr hq3) (fun h hr => ?_)
    refine rw_if_eq (tgt := 69) dX12_isTriangle_15 (by decide) (fun c4 => ?_) (fun c4 => ?_)
    · rw [if_pos c4] at hf
      refine rw_sub [] rfl ?_
      exact t_jX12_isTriangle_69 (ad := ad) (G := G)  q3.2 _ hr hf
    · rw [if_neg c4] at hf
      refine rw_aload_n dX12_isTriangle_18 0 rfl rfl ?_
      refine rw_iload_n dX12_isTriangle_19 2 rfl rfl ?_
      refine rw_iload_n dX12_isTriangle_20 3 rfl rfl ?_
      obtain ⟨q5, hq5, hf⟩ := bnd hf
      refine kV_I (ad := ad) (As := [.int a1, .int a2]) (st := []) dX12_isTriangle_21 calX12_areNeighbours wm1692 wm1694 wm39 rfl rfl (rc_43 hr) (ci := 12) (by decide) rfl rfl (Nat.le_of_ble_eq_true rfl) ⟨⟨by decide, by decide⟩, by decide, by decide⟩ (cmX12_areNeighbours hr hq5) (fun h hr => ?_)
      refine rw_if_eq (tgt := 69) dX12_isTriangle_24 (by decide) (fun c6 => ?_) (fun c6 => ?_)
      · rw [if_pos c6] at hf
        refine rw_sub [] rfl ?_
        exact t_jX12_isTriangle_69 (ad := ad) (G := G)  q5.2 _ hr hf
      · rw [if_neg c6] at hf
        refine rw_aload_n dX12_isTriangle_27 0 rfl rfl ?_
        refine sg_43_3 hr dX12_isTriangle_28 fl1465 ?_
        refine rw_iload_n dX12_isTriangle_31 1 rfl rfl ?_
        obtain ⟨hi7, hf⟩ := grd hf
        refine sl_44 hr dX12_isTriangle_32 (inB_in hi7) ?_
        refine rw_aload_n dX12_isTriangle_33 0 rfl rfl ?_
        refine sg_43_4 hr dX12_isTriangle_34 fl1466 ?_
        refine rw_iload_n dX12_isTriangle_37 1 rfl rfl ?_
        obtain ⟨hi8, hf⟩ := grd hf
        refine sl_45 hr dX12_isTriangle_38 (inB_in hi8) ?_
        refine rw_aload_n dX12_isTriangle_39 0 rfl rfl ?_
        refine sg_43_3 hr dX12_isTriangle_40 fl1465 ?_
        refine rw_iload_n dX12_isTriangle_43 2 rfl rfl ?_
        obtain ⟨hi9, hf⟩ := grd hf
        refine sl_44 hr dX12_isTriangle_44 (inB_in hi9) ?_
        refine rw_aload_n dX12_isTriangle_45 0 rfl rfl ?_
        refine sg_43_4 hr dX12_isTriangle_46 fl1466 ?_
        refine rw_iload_n dX12_isTriangle_49 2 rfl rfl ?_
        obtain ⟨hi10, hf⟩ := grd hf
        refine sl_45 hr dX12_isTriangle_50 (inB_in hi10) ?_
        refine rw_aload_n dX12_isTriangle_51 0 rfl rfl ?_
        refine sg_43_3 hr dX12_isTriangle_52 fl1465 ?_
        refine rw_iload_n dX12_isTriangle_55 3 rfl rfl ?_
        obtain ⟨hi11, hf⟩ := grd hf
        refine sl_44 hr dX12_isTriangle_56 (inB_in hi11) ?_
        refine rw_aload_n dX12_isTriangle_57 0 rfl rfl ?_
        refine sg_43_4 hr dX12_isTriangle_58 fl1466 ?_
        refine rw_iload_n dX12_isTriangle_61 3 rfl rfl ?_
        obtain ⟨hi12, hf⟩ := grd hf
        refine sl_45 hr dX12_isTriangle_62 (inB_in hi12) ?_
        obtain ⟨q13, hq13, hf⟩ := bnd hf
        refine kS_I (ad := ad) (As := [.int (q5.2.2.2.1 44 a0.toNatClampNeg), .int (q5.2.2.2.1 45 a0.toNatClampNeg), .int (q5.2.2.2.1 44 a1.toNatClampNeg), .int (q5.2.2.2.1 45 a1.toNatClampNeg), .int (q5.2.2.2.1 44 a2.toNatClampNeg), .int (q5.2.2.2.1 45 a2.toNatClampNeg)]) (st := []) dX12_isTriangle_63 calX12_side wm1668 wm1669 rfl rfl (Nat.le_of_ble_eq_true rfl) ⟨⟨by decide, by decide⟩, by decide, by decide⟩ (cmX12_side hr hq13) (fun h hr => ?_)
        refine rw_if_ne (tgt := 71) dX12_isTriangle_66 (by decide) (fun c14 => ?_) (fun c14 => ?_)
        · rw [if_neg c14] at hf
          refine rw_iconst (v := 1) dX12_isTriangle_71 (by decide) ?_
          refine rw_istore (lv2 := [(4, .int 1), (0, .ref (ad 43)), (1, .int a0), (2, .int a1), (3, .int a2)]) dX12_isTriangle_72 (by decide) rfl ?_
          refine rw_iconst (v := 0) dX12_isTriangle_74 (by decide) ?_
          refine rw_istore (lv2 := [(5, .int 0), (4, .int 1), (0, .ref (ad 43)), (1, .int a0), (2, .int a1), (3, .int a2)]) dX12_isTriangle_75 (by decide) rfl ?_
          refine rw_sub [2, 3, 4, 5, 1, 0] rfl ?_
          exact t_lX12_isTriangle_77 (ad := ad) (G := G)  1000 a0 a1 a2 1 0 q13.2 _ hr hf
        · rw [if_pos c14] at hf
          refine rw_sub [] rfl ?_
          exact t_jX12_isTriangle_69 (ad := ad) (G := G)  q13.2 _ hr hf
