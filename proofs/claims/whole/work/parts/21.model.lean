def jX12_findTriangles_99 (k7 : Int32 → rS → Option (Unit × rS)) (k19 : Int32 → Int32 → rS → Option (Unit × rS)) (k31 : Int32 → Int32 → Int32 → rS → Option (Unit × rS)) (v1 : Int32) (v2 : Int32) (v3 : Int32) (σ : rS) : Option (Unit × rS) := vI (v3 + 1) fun x18 => k31 v1 v2 x18 σ
set_option maxHeartbeats 4000000 in
theorem t_jX12_findTriangles_99 {G : rG} {ad : Nat → Nat} {o : (Unit × rS)} (k7 : Int32 → rS → Option (Unit × rS)) (k19 : Int32 → Int32 → rS → Option (Unit × rS)) (k31 : Int32 → Int32 → Int32 → rS → Option (Unit × rS)) (hk7 : ∀ (v1 : Int32) (σ : rS) (h : rH), Rep G ad σ h → k7 v1 σ = some o → RW G mX12_findTriangles (rm 4 0 0) (qV G ad o) xN 0 0 7 [(0, .ref (ad 43)), (1, .int v1)] [] h) (hk19 : ∀ (v1 : Int32) (v2 : Int32) (σ : rS) (h : rH), Rep G ad σ h → k19 v1 v2 σ = some o → RW G mX12_findTriangles (rm 4 0 0) (qV G ad o) xN 0 0 19 [(0, .ref (ad 43)), (1, .int v1), (2, .int v2)] [] h) (hk31 : ∀ (v1 : Int32) (v2 : Int32) (v3 : Int32) (σ : rS) (h : rH), Rep G ad σ h → k31 v1 v2 v3 σ = some o → RW G mX12_findTriangles (rm 4 0 0) (qV G ad o) xN 0 0 31 [(0, .ref (ad 43)), (1, .int v1), (2, .int v2), (3, .int v3)] [] h) (v1 : Int32) (v2 : Int32) (v3 : Int32) (σ : rS) (h : rH) (hr : Rep G ad σ h) (hf : jX12_findTriangles_99 k7 k19 k31 v1 v2 v3 σ = some o) : RW G mX12_findTriangles (rm 4 0 0) (qV G ad o) xN 0 0 99 [(0, .ref (ad 43)), (1, .int v1), (2, .int v2), (3, .int v3)] [] h := by
  unfold jX12_findTriangles_99 at hf
  refine rw_iinc (v := v3 + 1) (lv2 := [(3, .int (v3 + 1)), (0, .ref (ad 43)), (1, .int v1), (2, .int v2)]) dX12_findTriangles_99 3 rfl rfl (by decide) rfl ?_
  refine nmL hf (fun x18 hf => ?_)
  refine rw_goto (tgt := 31) dX12_findTriangles_102 (by decide) ?_
  refine rw_sub [1, 2, 3, 0] rfl ?_
  exact hk31 v1 v2 x18 σ _ hr hf
def lX12_findTriangles_31 (k7 : Int32 → rS → Option (Unit × rS)) (k19 : Int32 → Int32 → rS → Option (Unit × rS)) : Nat → Int32 → Int32 → Int32 → rS → Option (Unit × rS)
  | 0, _, _, _, _ => none
  | n + 1, v1, v2, v3, σ => if (σ.1 43 2) ≤ v3 then vI (v2 + 1) fun x8 => k19 v1 x8 σ else (fX12_isTriangle v1 v2 v3 σ).bind fun q9 => if q9.1 = 0 then jX12_findTriangles_99 k7 k19 (lX12_findTriangles_31 k7 k19 n) v1 v2 v3 q9.2 else if inB (3 * (q9.2.1 43 23)) 1680 then vS (uA q9.2 59 (3 * (q9.2.1 43 23)).toNatClampNeg v1) fun σ12 => if inB ((3 * (σ12.1 43 23)) + 1) 1680 then vS (uA σ12 59 ((3 * (σ12.1 43 23)) + 1).toNatClampNeg v2) fun σ14 => if inB ((3 * (σ14.1 43 23)) + 2) 1680 then vS (uA σ14 59 ((3 * (σ14.1 43 23)) + 2).toNatClampNeg v3) fun σ16 => vS (uI σ16 43 23 ((σ16.1 43 23) + 1)) fun σ17 => jX12_findTriangles_99 k7 k19 (lX12_findTriangles_31 k7 k19 n) v1 v2 v3 σ17 else none else none else none
set_option maxHeartbeats 4000000 in
theorem t_lX12_findTriangles_31 {G : rG} {ad : Nat → Nat} {o : (Unit × rS)} (k7 : Int32 → rS → Option (Unit × rS)) (k19 : Int32 → Int32 → rS → Option (Unit × rS)) (hk7 : ∀ (v1 : Int32) (σ : rS) (h : rH), Rep G ad σ h → k7 v1 σ = some o → RW G mX12_findTriangles (rm 4 0 0) (qV G ad o) xN 0 0 7 [(0, .ref (ad 43)), (1, .int v1)] [] h) (hk19 : ∀ (v1 : Int32) (v2 : Int32) (σ : rS) (h : rH), Rep G ad σ h → k19 v1 v2 σ = some o → RW G mX12_findTriangles (rm 4 0 0) (qV G ad o) xN 0 0 19 [(0, .ref (ad 43)), (1, .int v1), (2, .int v2)] [] h) : ∀ (n : Nat) (v1 : Int32) (v2 : Int32) (v3 : Int32) (σ : rS) (h : rH), Rep G ad σ h → lX12_findTriangles_31 k7 k19 n v1 v2 v3 σ = some o → RW G mX12_findTriangles (rm 4 0 0) (qV G ad o) xN 0 0 31 [(0, .ref (ad 43)), (1, .int v1), (2, .int v2), (3, .int v3)] [] h := by
  intro n
  induction n with
  | zero =>
    intro v1 v2 v3 σ h hr hf
    rw [lX12_findTriangles_31] at hf
    cases hf
  | succ n ih =>
    intro v1 v2 v3 σ h hr hf
    rw [lX12_findTriangles_31] at hf
    refine rw_iload_n dX12_findTriangles_31 3 rfl rfl ?_
    refine rw_aload_n dX12_findTriangles_32 0 rfl rfl ?_
    refine sg_43_2 hr dX12_findTriangles_33 fl1464 ?_
    refine rw_icmp_ge (tgt := 105) dX12_findTriangles_36 (by decide) (fun c7 => ?_) (fun c7 => ?_)
    · rw [if_pos c7] at hf
      refine rw_iinc (v := v2 + 1) (lv2 := [(2, .int (v2 + 1)), (0, .ref (ad 43)), (1, .int v1), (3, .int v3)]) dX12_findTriangles_105 2 rfl rfl (by decide) rfl ?_
      refine nmL hf (fun x8 hf => ?_)
      refine rw_goto (tgt := 19) dX12_findTriangles_108 (by decide) ?_
      refine rw_sub [1, 2, 0] rfl ?_
      exact hk19 v1 x8 σ _ hr hf
    · rw [if_neg c7] at hf
      refine rw_aload_n dX12_findTriangles_39 0 rfl rfl ?_
      refine rw_iload_n dX12_findTriangles_40 1 rfl rfl ?_
      refine rw_iload_n dX12_findTriangles_41 2 rfl rfl ?_
      refine rw_iload_n dX12_findTriangles_42 3 rfl rfl ?_
      obtain ⟨q9, hq9, hf⟩ := bnd hf
      refine kV_I (ad := ad) (As := [.int v1, .int v2, .int v3]) (st := []) dX12_findTriangles_43 calX12_isTriangle wm1688 wm1690 wm38 rfl rfl (rc_43 hr) (ci := 12) (by decide) rfl rfl (Nat.le_of_ble_eq_true rfl) ⟨⟨by decide, by decide⟩, by decide, by decide⟩ (cmX12_isTriangle hr hq9) (fun h hr => ?_)
      refine rw_if_eq (tgt := 99) dX12_findTriangles_46 (by decide) (fun c10 => ?_) (fun c10 => ?_)
      · rw [if_pos c10] at hf
        exact t_jX12_findTriangles_99 (ad := ad) (G := G) k7 k19 (lX12_findTriangles_31 k7 k19 n) hk7 hk19 ih v1 v2 v3 q9.2 _ hr hf
      · rw [if_neg c10] at hf
        refine rw_aload_n dX12_findTriangles_49 0 rfl rfl ?_
        refine sg_43_24 hr dX12_findTriangles_50 fl1486 ?_
        refine rw_iconst (v := 3) dX12_findTriangles_53 (by decide) ?_
        refine rw_aload_n dX12_findTriangles_54 0 rfl rfl ?_
        refine sg_43_23 hr dX12_findTriangles_55 fl1485 ?_
        refine rw_imul dX12_findTriangles_58 ?_
        refine rw_iload_n dX12_findTriangles_59 1 rfl rfl ?_
        obtain ⟨hi11, hf⟩ := grd hf
        refine ss_59 hr dX12_findTriangles_60 (inB_in hi11) (fun h hr => ?_)
        refine nmS hf hr (fun σ12 hr hf => ?_)
        refine rw_aload_n dX12_findTriangles_61 0 rfl rfl ?_
        refine sg_43_24 hr dX12_findTriangles_62 fl1486 ?_
        refine rw_iconst (v := 3) dX12_findTriangles_65 (by decide) ?_
        refine rw_aload_n dX12_findTriangles_66 0 rfl rfl ?_
        refine sg_43_23 hr dX12_findTriangles_67 fl1485 ?_
        refine rw_imul dX12_findTriangles_70 ?_
        refine rw_iconst (v := 1) dX12_findTriangles_71 (by decide) ?_
        refine rw_iadd dX12_findTriangles_72 ?_
        refine rw_iload_n dX12_findTriangles_73 2 rfl rfl ?_
        obtain ⟨hi13, hf⟩ := grd hf
        refine ss_59 hr dX12_findTriangles_74 (inB_in hi13) (fun h hr => ?_)
        refine nmS hf hr (fun σ14 hr hf => ?_)
        refine rw_aload_n dX12_findTriangles_75 0 rfl rfl ?_
        refine sg_43_24 hr dX12_findTriangles_76 fl1486 ?_
        refine rw_iconst (v := 3) dX12_findTriangles_79 (by decide) ?_
        refine rw_aload_n dX12_findTriangles_80 0 rfl rfl ?_
        refine sg_43_23 hr dX12_findTriangles_81 fl1485 ?_
        refine rw_imul dX12_findTriangles_84 ?_
        refine rw_iconst (v := 2) dX12_findTriangles_85 (by decide) ?_
        refine rw_iadd dX12_findTriangles_86 ?_
        refine rw_iload_n dX12_findTriangles_87 3 rfl rfl ?_
        obtain ⟨hi15, hf⟩ := grd hf
        refine ss_59 hr dX12_findTriangles_88 (inB_in hi15) (fun h hr => ?_)
        refine nmS hf hr (fun σ16 hr hf => ?_)
        refine rw_aload_n dX12_findTriangles_89 0 rfl rfl ?_
        refine rw_dup dX12_findTriangles_90 rfl ?_
        refine sg_43_23 hr dX12_findTriangles_91 fl1485 ?_
        refine rw_iconst (v := 1) dX12_findTriangles_94 (by decide) ?_
        refine rw_iadd dX12_findTriangles_95 ?_
        refine sp_43_23 hr dX12_findTriangles_96 fl1485 (fun h hr => ?_)
        refine nmS hf hr (fun σ17 hr hf => ?_)
        exact t_jX12_findTriangles_99 (ad := ad) (G := G) k7 k19 (lX12_findTriangles_31 k7 k19 n) hk7 hk19 ih v1 v2 v3 σ17 _ hr hf
def lX12_findTriangles_19 (k7 : Int32 → rS → Option (Unit × rS)) : Nat → Int32 → Int32 → rS → Option (Unit × rS)
  | 0, _, _, _ => none
  | n + 1, v1, v2, σ => if (σ.1 43 2) ≤ v2 then vI (v1 + 1) fun x5 => k7 x5 σ else vI (v2 + 1) fun x6 => lX12_findTriangles_31 k7 (lX12_findTriangles_19 k7 n) 1000 v1 v2 x6 σ
set_option maxHeartbeats 4000000 in
theorem t_lX12_findTriangles_19 {G : rG} {ad : Nat → Nat} {o : (Unit × rS)} (k7 : Int32 → rS → Option (Unit × rS)) (hk7 : ∀ (v1 : Int32) (σ : rS) (h : rH), Rep G ad σ h → k7 v1 σ = some o → RW G mX12_findTriangles (rm 4 0 0) (qV G ad o) xN 0 0 7 [(0, .ref (ad 43)), (1, .int v1)] [] h) : ∀ (n : Nat) (v1 : Int32) (v2 : Int32) (σ : rS) (h : rH), Rep G ad σ h → lX12_findTriangles_19 k7 n v1 v2 σ = some o → RW G mX12_findTriangles (rm 4 0 0) (qV G ad o) xN 0 0 19 [(0, .ref (ad 43)), (1, .int v1), (2, .int v2)] [] h := by
  intro n
  induction n with
  | zero =>
    intro v1 v2 σ h hr hf
    rw [lX12_findTriangles_19] at hf
    cases hf
  | succ n ih =>
    intro v1 v2 σ h hr hf
    rw [lX12_findTriangles_19] at hf
    refine rw_iload_n dX12_findTriangles_19 2 rfl rfl ?_
    refine rw_aload_n dX12_findTriangles_20 0 rfl rfl ?_
    refine sg_43_2 hr dX12_findTriangles_21 fl1464 ?_
    refine rw_icmp_ge (tgt := 111) dX12_findTriangles_24 (by decide) (fun c4 => ?_) (fun c4 => ?_)
    · rw [if_pos c4] at hf
      refine rw_iinc (v := v1 + 1) (lv2 := [(1, .int (v1 + 1)), (0, .ref (ad 43)), (2, .int v2)]) dX12_findTriangles_111 1 rfl rfl (by decide) rfl ?_
      refine nmL hf (fun x5 hf => ?_)
      refine rw_goto (tgt := 7) dX12_findTriangles_114 (by decide) ?_
      refine rw_sub [1, 0] rfl ?_
      exact hk7 x5 σ _ hr hf
    · rw [if_neg c4] at hf
      refine rw_iload_n dX12_findTriangles_27 2 rfl rfl ?_
      refine rw_iconst (v := 1) dX12_findTriangles_28 (by decide) ?_
      refine rw_iadd dX12_findTriangles_29 ?_
      refine nmI hf (fun x6 hf => ?_)
      refine rw_istore_n (lv2 := [(3, .int x6), (0, .ref (ad 43)), (1, .int v1), (2, .int v2)]) dX12_findTriangles_30 rfl (by decide) rfl ?_
      refine rw_sub [1, 2, 3, 0] rfl ?_
      exact t_lX12_findTriangles_31 (ad := ad) (G := G) k7 (lX12_findTriangles_19 k7 n) hk7 ih 1000 v1 v2 x6 σ _ hr hf
def lX12_findTriangles_7  : Nat → Int32 → rS → Option (Unit × rS)
  | 0, _, _ => none
  | n + 1, v1, σ => if (σ.1 43 2) ≤ v1 then some ((), σ) else vI (v1 + 1) fun x3 => lX12_findTriangles_19 (lX12_findTriangles_7 n) 1000 v1 x3 σ
set_option maxHeartbeats 4000000 in
theorem t_lX12_findTriangles_7 {G : rG} {ad : Nat → Nat} {o : (Unit × rS)}   : ∀ (n : Nat) (v1 : Int32) (σ : rS) (h : rH), Rep G ad σ h → lX12_findTriangles_7  n v1 σ = some o → RW G mX12_findTriangles (rm 4 0 0) (qV G ad o) xN 0 0 7 [(0, .ref (ad 43)), (1, .int v1)] [] h := by
  intro n
  induction n with
  | zero =>
    intro v1 σ h hr hf
    rw [lX12_findTriangles_7] at hf
    cases hf
  | succ n ih =>
    intro v1 σ h hr hf
    rw [lX12_findTriangles_7] at hf
    refine rw_iload_n dX12_findTriangles_7 1 rfl rfl ?_
    refine rw_aload_n dX12_findTriangles_8 0 rfl rfl ?_
    refine sg_43_2 hr dX12_findTriangles_9 fl1464 ?_
    refine rw_icmp_ge (tgt := 117) dX12_findTriangles_12 (by decide) (fun c2 => ?_) (fun c2 => ?_)
    · rw [if_pos c2] at hf
      replace hf := Option.some.inj hf
      subst hf
      exact rw_return dX12_findTriangles_117 rfl ⟨rfl, hr⟩ (by decide) (by decide)
    · rw [if_neg c2] at hf
      refine rw_iload_n dX12_findTriangles_15 1 rfl rfl ?_
      refine rw_iconst (v := 1) dX12_findTriangles_16 (by decide) ?_
      refine rw_iadd dX12_findTriangles_17 ?_
      refine nmI hf (fun x3 hf => ?_)
      refine rw_istore_n (lv2 := [(2, .int x3), (0, .ref (ad 43)), (1, .int v1)]) dX12_findTriangles_18 rfl (by decide) rfl ?_
      refine rw_sub [1, 2, 0] rfl ?_
      exact t_lX12_findTriangles_19 (ad := ad) (G := G) (lX12_findTriangles_7 n) ih 1000 v1 x3 σ _ hr hf
def fX12_findTriangles  (σ : rS) : Option (Unit × rS) := vS (uI σ 43 23 0) fun σ1 => lX12_findTriangles_7 1000 0 σ1
set_option maxHeartbeats 4000000 in
theorem cmX12_findTriangles {G : rG} {ad : Nat → Nat}  {σ : rS} {h : rH} {o : (Unit × rS)} (hr : Rep G ad σ h) (hf : fX12_findTriangles  σ = some o) : rMT G mX12_findTriangles (rm 4 0 0) [.ref (ad 43)] h (qV G ad o) xN := by
  unfold fX12_findTriangles at hf
  refine rw_met (by decide +kernel) rfl (Nat.le_of_ble_eq_true rfl) ?_
  show RW G _ _ _ _ 0 0 0 [(0, .ref (ad 43))] [] h
  refine rw_aload_n dX12_findTriangles_0 0 rfl rfl ?_
  refine rw_iconst (v := 0) dX12_findTriangles_1 (by decide) ?_
  refine sp_43_23 hr dX12_findTriangles_2 fl1485 (fun h hr => ?_)
  refine nmS hf hr (fun σ1 hr hf => ?_)
  refine rw_iconst (v := 0) dX12_findTriangles_5 (by decide) ?_
  refine rw_istore_n (lv2 := [(1, .int 0), (0, .ref (ad 43))]) dX12_findTriangles_6 rfl (by decide) rfl ?_
  refine rw_sub [1, 0] rfl ?_
  exact t_lX12_findTriangles_7 (ad := ad) (G := G)  1000 0 σ1 _ hr hf
def jX12_pairCost_114  (s0 : Int32) (s1 : Int32) (σ : rS) : Option (Int32 × rS) := some ((s1 + s0), σ)
set_option maxHeartbeats 4000000 in
theorem t_jX12_pairCost_114 {G : rG} {ad : Nat → Nat} {o : (Int32 × rS)}   (s0 : Int32) (s1 : Int32) (σ : rS) (h : rH) (hr : Rep G ad σ h) (hf : jX12_pairCost_114  s0 s1 σ = some o) : RW G mX12_pairCost (rm 0 0 0) (qI G ad o) xN 0 0 114 [] [.int s0, .int s1] h := by
  unfold jX12_pairCost_114 at hf
  refine rw_iadd dX12_pairCost_114 ?_
  replace hf := Option.some.inj hf
  subst hf
  exact rw_ireturn dX12_pairCost_115 rfl ⟨rfl, hr⟩ (by decide) (by decide)
def jX12_pairCost_112  (s0 : Int32) (s1 : Int32) (s2 : Int32) (s3 : Int32) (σ : rS) : Option (Int32 × rS) := jX12_pairCost_114 (s2 + (s1 * s0)) s3 σ
set_option maxHeartbeats 4000000 in
theorem t_jX12_pairCost_112 {G : rG} {ad : Nat → Nat} {o : (Int32 × rS)}   (s0 : Int32) (s1 : Int32) (s2 : Int32) (s3 : Int32) (σ : rS) (h : rH) (hr : Rep G ad σ h) (hf : jX12_pairCost_112  s0 s1 s2 s3 σ = some o) : RW G mX12_pairCost (rm 0 0 0) (qI G ad o) xN 0 0 112 [] [.int s0, .int s1, .int s2, .int s3] h := by
  unfold jX12_pairCost_112 at hf
  refine rw_imul dX12_pairCost_112 ?_
  refine rw_iadd dX12_pairCost_113 ?_
  exact t_jX12_pairCost_114 (ad := ad) (G := G)  (s2 + (s1 * s0)) s3 σ _ hr hf
def jX12_pairCost_74  (v5 : Int32) (v6 : Int32) (v8 : Int32) (s0 : Int32) (σ : rS) : Option (Int32 × rS) := if inB v5 192 then if inB v6 192 then (if (σ.2.2.1 48 v5.toNatClampNeg) = (σ.2.2.1 48 v6.toNatClampNeg) then jX12_pairCost_114 0 s0 σ else if 0 ≤ v8 then jX12_pairCost_112 v8 50 100 s0 σ else jX12_pairCost_112 (-v8) 50 100 s0 σ) else none else none
set_option maxHeartbeats 4000000 in
theorem t_jX12_pairCost_74 {G : rG} {ad : Nat → Nat} {o : (Int32 × rS)}   (v5 : Int32) (v6 : Int32) (v8 : Int32) (s0 : Int32) (σ : rS) (h : rH) (hr : Rep G ad σ h) (hf : jX12_pairCost_74  v5 v6 v8 s0 σ = some o) : RW G mX12_pairCost (rm 0 0 0) (qI G ad o) xN 0 0 74 [(0, .ref (ad 43)), (5, .int v5), (6, .int v6), (8, .int v8)] [.int s0] h := by
  unfold jX12_pairCost_74 at hf
  refine rw_aload_n dX12_pairCost_74 0 rfl rfl ?_
  refine sg_43_7 hr dX12_pairCost_75 fl1469 ?_
  refine rw_iload dX12_pairCost_78 1 rfl ?_
  obtain ⟨hi12, hf⟩ := grd hf
  refine sl_48 hr dX12_pairCost_80 (inB_in hi12) ?_
  refine rw_aload_n dX12_pairCost_81 0 rfl rfl ?_
  refine sg_43_7 hr dX12_pairCost_82 fl1469 ?_
  refine rw_iload dX12_pairCost_85 2 rfl ?_
  obtain ⟨hi13, hf⟩ := grd hf
  refine sl_48 hr dX12_pairCost_87 (inB_in hi13) ?_
  refine rw_icmp_ne (tgt := 95) dX12_pairCost_88 (by decide) (fun c14 => ?_) (fun c14 => ?_)
  · rw [if_neg c14] at hf
    refine rw_bipush (v := 100) dX12_pairCost_95 (by decide) ?_
    refine rw_bipush (v := 50) dX12_pairCost_97 (by decide) ?_
    refine rw_iload dX12_pairCost_99 3 rfl ?_
    refine rw_if_ge (tgt := 110) dX12_pairCost_101 (by decide) (fun c15 => ?_) (fun c15 => ?_)
    · rw [if_pos c15] at hf
      refine rw_iload dX12_pairCost_110 3 rfl ?_
      refine rw_sub [] rfl ?_
      exact t_jX12_pairCost_112 (ad := ad) (G := G)  v8 50 100 s0 σ _ hr hf
    · rw [if_neg c15] at hf
      refine rw_iload dX12_pairCost_104 3 rfl ?_
      refine rw_ineg dX12_pairCost_106 ?_
      refine rw_goto (tgt := 112) dX12_pairCost_107 (by decide) ?_
      refine rw_sub [] rfl ?_
      exact t_jX12_pairCost_112 (ad := ad) (G := G)  (-v8) 50 100 s0 σ _ hr hf
  · rw [if_pos c14] at hf
    refine rw_iconst (v := 0) dX12_pairCost_91 (by decide) ?_
    refine rw_goto (tgt := 114) dX12_pairCost_92 (by decide) ?_
    refine rw_sub [] rfl ?_
    exact t_jX12_pairCost_114 (ad := ad) (G := G)  0 s0 σ _ hr hf
def fX12_pairCost (a0 : Int32) (a1 : Int32) (a2 : Int32) (a3 : Int32) (σ : rS) : Option (Int32 × rS) := vI ((12 * a0) + a1) fun x1 => vI ((12 * a2) + a3) fun x2 => if inB x1 192 then if inB x2 192 then vI ((σ.2.2.1 49 x1.toNatClampNeg) - (σ.2.2.1 49 x2.toNatClampNeg)) fun x5 => if inB x1 192 then if inB (σ.2.2.1 48 x1.toNatClampNeg) 8 then if inB x2 192 then if inB (σ.2.2.1 48 x2.toNatClampNeg) 8 then vI ((σ.2.2.1 50 (σ.2.2.1 48 x1.toNatClampNeg).toNatClampNeg) - (σ.2.2.1 50 (σ.2.2.1 48 x2.toNatClampNeg).toNatClampNeg)) fun x10 => (if 0 ≤ x5 then jX12_pairCost_74 x1 x2 x10 x5 σ else jX12_pairCost_74 x1 x2 x10 (-x5) σ) else none else none else none else none else none else none
set_option maxHeartbeats 4000000 in
theorem cmX12_pairCost {G : rG} {ad : Nat → Nat} {a0 : Int32} {a1 : Int32} {a2 : Int32} {a3 : Int32} {σ : rS} {h : rH} {o : (Int32 × rS)} (hr : Rep G ad σ h) (hf : fX12_pairCost a0 a1 a2 a3 σ = some o) : rMT G mX12_pairCost (rm 0 0 0) [.ref (ad 43), .int a0, .int a1, .int a2, .int a3] h (qI G ad o) xN := by
  unfold fX12_pairCost at hf
  refine rw_met (by decide +kernel) rfl (Nat.le_of_ble_eq_true rfl) ?_
  show RW G _ _ _ _ 0 0 0 [(0, .ref (ad 43)), (1, .int a0), (2, .int a1), (3, .int a2), (4, .int a3)] [] h
  refine rw_bipush (v := 12) dX12_pairCost_0 (by decide) ?_
  refine rw_iload_n dX12_pairCost_2 1 rfl rfl ?_
  refine rw_imul dX12_pairCost_3 ?_
  refine rw_iload_n dX12_pairCost_4 2 rfl rfl ?_
  refine rw_iadd dX12_pairCost_5 ?_
  refine nmI hf (fun x1 hf => ?_)
  refine rw_istore (lv2 := [(5, .int x1), (0, .ref (ad 43)), (1, .int a0), (2, .int a1), (3, .int a2), (4, .int a3)]) dX12_pairCost_6 (by decide) rfl ?_
  refine rw_bipush (v := 12) dX12_pairCost_8 (by decide) ?_
  refine rw_iload_n dX12_pairCost_10 4 rfl rfl ?_
  refine rw_imul dX12_pairCost_11 ?_
  refine rw_iload dX12_pairCost_12 5 rfl ?_
  refine rw_iadd dX12_pairCost_14 ?_
  refine nmI hf (fun x2 hf => ?_)
  refine rw_istore (lv2 := [(6, .int x2), (5, .int x1), (0, .ref (ad 43)), (1, .int a0), (2, .int a1), (3, .int a2), (4, .int a3)]) dX12_pairCost_15 (by decide) rfl ?_
  refine rw_aload_n dX12_pairCost_17 2 rfl rfl ?_
  refine sg_43_8 hr dX12_pairCost_18 fl1470 ?_
  refine rw_iload dX12_pairCost_21 1 rfl ?_
  obtain ⟨hi3, hf⟩ := grd hf
  refine sl_49 hr dX12_pairCost_23 (inB_in hi3) ?_
  refine rw_aload_n dX12_pairCost_24 2 rfl rfl ?_
  refine sg_43_8 hr dX12_pairCost_25 fl1470 ?_
  refine rw_iload dX12_pairCost_28 0 rfl ?_
  obtain ⟨hi4, hf⟩ := grd hf
  refine sl_49 hr dX12_pairCost_30 (inB_in hi4) ?_
  refine rw_isub dX12_pairCost_31 ?_
  refine nmI hf (fun x5 hf => ?_)
  refine rw_istore (lv2 := [(7, .int x5), (6, .int x2), (5, .int x1), (0, .ref (ad 43)), (1, .int a0), (2, .int a1), (3, .int a2), (4, .int a3)]) dX12_pairCost_32 (by decide) rfl ?_
  refine rw_aload_n dX12_pairCost_34 3 rfl rfl ?_
  refine sg_43_9 hr dX12_pairCost_35 fl1471 ?_
  refine rw_aload_n dX12_pairCost_38 3 rfl rfl ?_
  refine sg_43_7 hr dX12_pairCost_39 fl1469 ?_
  refine rw_iload dX12_pairCost_42 2 rfl ?_
  obtain ⟨hi6, hf⟩ := grd hf
  refine sl_48 hr dX12_pairCost_44 (inB_in hi6) ?_
  obtain ⟨hi7, hf⟩ := grd hf
  refine sl_50 hr dX12_pairCost_45 (inB_in hi7) ?_
  refine rw_aload_n dX12_pairCost_46 3 rfl rfl ?_
  refine sg_43_9 hr dX12_pairCost_47 fl1471 ?_
  refine rw_aload_n dX12_pairCost_50 3 rfl rfl ?_
  refine sg_43_7 hr dX12_pairCost_51 fl1469 ?_
  refine rw_iload dX12_pairCost_54 1 rfl ?_
  obtain ⟨hi8, hf⟩ := grd hf
  refine sl_48 hr dX12_pairCost_56 (inB_in hi8) ?_
  obtain ⟨hi9, hf⟩ := grd hf
  refine sl_50 hr dX12_pairCost_57 (inB_in hi9) ?_
  refine rw_isub dX12_pairCost_58 ?_
  refine nmI hf (fun x10 hf => ?_)
  refine rw_istore (lv2 := [(8, .int x10), (7, .int x5), (6, .int x2), (5, .int x1), (0, .ref (ad 43)), (1, .int a0), (2, .int a1), (3, .int a2), (4, .int a3)]) dX12_pairCost_59 (by decide) rfl ?_
  refine rw_iload dX12_pairCost_61 1 rfl ?_
  refine rw_if_ge (tgt := 72) dX12_pairCost_63 (by decide) (fun c11 => ?_) (fun c11 => ?_)
  · rw [if_pos c11] at hf
    refine rw_iload dX12_pairCost_72 1 rfl ?_
    refine rw_sub [4, 3, 2, 0] rfl ?_
    exact t_jX12_pairCost_74 (ad := ad) (G := G)  x1 x2 x10 x5 σ _ hr hf
  · rw [if_neg c11] at hf
    refine rw_iload dX12_pairCost_66 1 rfl ?_
    refine rw_ineg dX12_pairCost_68 ?_
    refine rw_goto (tgt := 74) dX12_pairCost_69 (by decide) ?_
    refine rw_sub [4, 3, 2, 0] rfl ?_
    exact t_jX12_pairCost_74 (ad := ad) (G := G)  x1 x2 x10 (-x5) σ _ hr hf
def fX12_at (a0 : Int32) (a1 : Int32) (σ : rS) : Option (Int32 × rS) := some (((13 * a0) + a1), σ)
set_option maxHeartbeats 4000000 in
theorem cmX12_at {G : rG} {ad : Nat → Nat} {a0 : Int32} {a1 : Int32} {σ : rS} {h : rH} {o : (Int32 × rS)} (hr : Rep G ad σ h) (hf : fX12_at a0 a1 σ = some o) : rMT G mX12_at (rm 0 0 0) [.int a0, .int a1] h (qI G ad o) xN := by
  unfold fX12_at at hf
  refine rw_met (by decide +kernel) rfl (Nat.le_of_ble_eq_true rfl) ?_
  show RW G _ _ _ _ 0 0 0 [(0, .int a0), (1, .int a1)] [] h
  refine rw_bipush (v := 13) dX12_at_0 (by decide) ?_
  refine rw_iload_n dX12_at_2 0 rfl rfl ?_
  refine rw_imul dX12_at_3 ?_
  refine rw_iload_n dX12_at_4 1 rfl rfl ?_
  refine rw_iadd dX12_at_5 ?_
  replace hf := Option.some.inj hf
  subst hf
  exact rw_ireturn dX12_at_6 rfl ⟨rfl, hr⟩ (by decide) (by decide)
def jX12_matchEdge_400 (k265 : Int32 → Int32 → Int32 → Int32 → Int32 → Int32 → Int32 → rS → Option (Unit × rS)) (v1 : Int32) (v2 : Int32) (v3 : Int32) (v4 : Int32) (v5 : Int32) (v7 : Int32) (s0 : Int32) (σ : rS) : Option (Unit × rS) := vI (v7 + 1) fun x26 => k265 v1 v2 v3 v4 v5 s0 x26 σ
set_option maxHeartbeats 4000000 in
theorem t_jX12_matchEdge_400 {G : rG} {ad : Nat → Nat} {o : (Unit × rS)} (k265 : Int32 → Int32 → Int32 → Int32 → Int32 → Int32 → Int32 → rS → Option (Unit × rS)) (hk265 : ∀ (v1 : Int32) (v2 : Int32) (v3 : Int32) (v4 : Int32) (v5 : Int32) (v6 : Int32) (v7 : Int32) (σ : rS) (h : rH), Rep G ad σ h → k265 v1 v2 v3 v4 v5 v6 v7 σ = some o → RW G mX12_matchEdge (rm 1 0 0) (qV G ad o) xN 0 0 265 [(0, .ref (ad 43)), (1, .int v1), (2, .int v2), (3, .int v3), (4, .int v4), (5, .int v5), (6, .int v6), (7, .int v7)] [] h) (v1 : Int32) (v2 : Int32) (v3 : Int32) (v4 : Int32) (v5 : Int32) (v7 : Int32) (s0 : Int32) (σ : rS) (h : rH) (hr : Rep G ad σ h) (hf : jX12_matchEdge_400 k265 v1 v2 v3 v4 v5 v7 s0 σ = some o) : RW G mX12_matchEdge (rm 1 0 0) (qV G ad o) xN 0 0 400 [(0, .ref (ad 43)), (1, .int v1), (2, .int v2), (3, .int v3), (4, .int v4), (5, .int v5), (7, .int v7)] [.int s0] h := by
  unfold jX12_matchEdge_400 at hf
  refine rw_istore (lv2 := [(6, .int s0), (0, .ref (ad 43)), (1, .int v1), (2, .int v2), (3, .int v3), (4, .int v4), (5, .int v5), (7, .int v7)]) dX12_matchEdge_400 (by decide) rfl ?_
  refine rw_iinc (v := v7 + 1) (lv2 := [(7, .int (v7 + 1)), (6, .int s0), (0, .ref (ad 43)), (1, .int v1), (2, .int v2), (3, .int v3), (4, .int v4), (5, .int v5)]) dX12_matchEdge_402 7 rfl rfl (by decide) rfl ?_
  refine nmL hf (fun x26 hf => ?_)
  refine rw_goto (tgt := 265) dX12_matchEdge_405 (by decide) ?_
  refine rw_sub [2, 3, 4, 5, 6, 7, 1, 0] rfl ?_
  exact hk265 v1 v2 v3 v4 v5 s0 x26 σ _ hr hf
def jX12_matchEdge_371 (k265 : Int32 → Int32 → Int32 → Int32 → Int32 → Int32 → Int32 → rS → Option (Unit × rS)) (v1 : Int32) (v2 : Int32) (v3 : Int32) (v4 : Int32) (v5 : Int32) (v6 : Int32) (v7 : Int32) (v8 : Int32) (σ : rS) : Option (Unit × rS) := if inB ((12 * v1) + v7) 1440 then vS (uA σ 57 ((12 * v1) + v7).toNatClampNeg v8) fun σ24 => (if v8 = ((-1)) then jX12_matchEdge_400 k265 v1 v2 v3 v4 v5 v7 v6 σ24 else jX12_matchEdge_400 k265 v1 v2 v3 v4 v5 v7 (v8 + 1) σ24) else none
set_option maxHeartbeats 4000000 in
theorem t_jX12_matchEdge_371 {G : rG} {ad : Nat → Nat} {o : (Unit × rS)} (k265 : Int32 → Int32 → Int32 → Int32 → Int32 → Int32 → Int32 → rS → Option (Unit × rS)) (hk265 : ∀ (v1 : Int32) (v2 : Int32) (v3 : Int32) (v4 : Int32) (v5 : Int32) (v6 : Int32) (v7 : Int32) (σ : rS) (h : rH), Rep G ad σ h → k265 v1 v2 v3 v4 v5 v6 v7 σ = some o → RW G mX12_matchEdge (rm 1 0 0) (qV G ad o) xN 0 0 265 [(0, .ref (ad 43)), (1, .int v1), (2, .int v2), (3, .int v3), (4, .int v4), (5, .int v5), (6, .int v6), (7, .int v7)] [] h) (v1 : Int32) (v2 : Int32) (v3 : Int32) (v4 : Int32) (v5 : Int32) (v6 : Int32) (v7 : Int32) (v8 : Int32) (σ : rS) (h : rH) (hr : Rep G ad σ h) (hf : jX12_matchEdge_371 k265 v1 v2 v3 v4 v5 v6 v7 v8 σ = some o) : RW G mX12_matchEdge (rm 1 0 0) (qV G ad o) xN 0 0 371 [(0, .ref (ad 43)), (1, .int v1), (2, .int v2), (3, .int v3), (4, .int v4), (5, .int v5), (6, .int v6), (7, .int v7), (8, .int v8)] [] h := by
  unfold jX12_matchEdge_371 at hf
  refine rw_aload_n dX12_matchEdge_371 0 rfl rfl ?_
  refine sg_43_21 hr dX12_matchEdge_372 fl1483 ?_
  refine rw_bipush (v := 12) dX12_matchEdge_375 (by decide) ?_
  refine rw_iload_n dX12_matchEdge_377 1 rfl rfl ?_
  refine rw_imul dX12_matchEdge_378 ?_
  refine rw_iload dX12_matchEdge_379 7 rfl ?_
  refine rw_iadd dX12_matchEdge_381 ?_
  refine rw_iload dX12_matchEdge_382 8 rfl ?_
  obtain ⟨hi23, hf⟩ := grd hf
  refine ss_57 hr dX12_matchEdge_384 (inB_in hi23) (fun h hr => ?_)
  refine nmS hf hr (fun σ24 hr hf => ?_)
  refine rw_iload dX12_matchEdge_385 8 rfl ?_
  refine rw_iconst (v := (-1)) dX12_matchEdge_387 (by decide) ?_
  refine rw_icmp_ne (tgt := 396) dX12_matchEdge_388 (by decide) (fun c25 => ?_) (fun c25 => ?_)
  · rw [if_neg c25] at hf
    refine rw_iload dX12_matchEdge_396 8 rfl ?_
    refine rw_iconst (v := 1) dX12_matchEdge_398 (by decide) ?_
    refine rw_iadd dX12_matchEdge_399 ?_
    refine rw_sub [0, 1, 2, 3, 4, 5, 7] rfl ?_
    exact t_jX12_matchEdge_400 (ad := ad) (G := G) k265 hk265 v1 v2 v3 v4 v5 v7 (v8 + 1) σ24 _ hr hf
  · rw [if_pos c25] at hf
    refine rw_iload dX12_matchEdge_391 6 rfl ?_
    refine rw_goto (tgt := 400) dX12_matchEdge_393 (by decide) ?_
    refine rw_sub [0, 1, 2, 3, 4, 5, 7] rfl ?_
    exact t_jX12_matchEdge_400 (ad := ad) (G := G) k265 hk265 v1 v2 v3 v4 v5 v7 v6 σ24 _ hr hf
def jX12_matchEdge_346 (k265 : Int32 → Int32 → Int32 → Int32 → Int32 → Int32 → Int32 → rS → Option (Unit × rS)) (k282 : Int32 → Int32 → Int32 → Int32 → Int32 → Int32 → Int32 → Int32 → Int32 → Int32 → rS → Option (Unit × rS)) (v1 : Int32) (v2 : Int32) (v3 : Int32) (v4 : Int32) (v5 : Int32) (v6 : Int32) (v7 : Int32) (v9 : Int32) (v10 : Int32) (s0 : Int32) (σ : rS) : Option (Unit × rS) := if inB ((12 * v3) + v10) 192 then vI (v9 + (σ.2.2.1 49 ((12 * v3) + v10).toNatClampNeg)) fun x28 => vI (v10 + 1) fun x29 => k282 v1 v2 v3 v4 v5 v6 v7 s0 x28 x29 σ else none
set_option maxHeartbeats 4000000 in
theorem t_jX12_matchEdge_346 {G : rG} {ad : Nat → Nat} {o : (Unit × rS)} (k265 : Int32 → Int32 → Int32 → Int32 → Int32 → Int32 → Int32 → rS → Option (Unit × rS)) (k282 : Int32 → Int32 → Int32 → Int32 → Int32 → Int32 → Int32 → Int32 → Int32 → Int32 → rS → Option (Unit × rS)) (hk265 : ∀ (v1 : Int32) (v2 : Int32) (v3 : Int32) (v4 : Int32) (v5 : Int32) (v6 : Int32) (v7 : Int32) (σ : rS) (h : rH), Rep G ad σ h → k265 v1 v2 v3 v4 v5 v6 v7 σ = some o → RW G mX12_matchEdge (rm 1 0 0) (qV G ad o) xN 0 0 265 [(0, .ref (ad 43)), (1, .int v1), (2, .int v2), (3, .int v3), (4, .int v4), (5, .int v5), (6, .int v6), (7, .int v7)] [] h) (hk282 : ∀ (v1 : Int32) (v2 : Int32) (v3 : Int32) (v4 : Int32) (v5 : Int32) (v6 : Int32) (v7 : Int32) (v8 : Int32) (v9 : Int32) (v10 : Int32) (σ : rS) (h : rH), Rep G ad σ h → k282 v1 v2 v3 v4 v5 v6 v7 v8 v9 v10 σ = some o → RW G mX12_matchEdge (rm 1 0 0) (qV G ad o) xN 0 0 282 [(0, .ref (ad 43)), (1, .int v1), (2, .int v2), (3, .int v3), (4, .int v4), (5, .int v5), (6, .int v6), (7, .int v7), (8, .int v8), (9, .int v9), (10, .int v10)] [] h) (v1 : Int32) (v2 : Int32) (v3 : Int32) (v4 : Int32) (v5 : Int32) (v6 : Int32) (v7 : Int32) (v9 : Int32) (v10 : Int32) (s0 : Int32) (σ : rS) (h : rH) (hr : Rep G ad σ h) (hf : jX12_matchEdge_346 k265 k282 v1 v2 v3 v4 v5 v6 v7 v9 v10 s0 σ = some o) : RW G mX12_matchEdge (rm 1 0 0) (qV G ad o) xN 0 0 346 [(0, .ref (ad 43)), (1, .int v1), (2, .int v2), (3, .int v3), (4, .int v4), (5, .int v5), (6, .int v6), (7, .int v7), (9, .int v9), (10, .int v10)] [.int s0] h := by
  unfold jX12_matchEdge_346 at hf
  refine rw_istore (lv2 := [(8, .int s0), (0, .ref (ad 43)), (1, .int v1), (2, .int v2), (3, .int v3), (4, .int v4), (5, .int v5), (6, .int v6), (7, .int v7), (9, .int v9), (10, .int v10)]) dX12_matchEdge_346 (by decide) rfl ?_
  refine rw_iload dX12_matchEdge_348 9 rfl ?_
  refine rw_aload_n dX12_matchEdge_350 1 rfl rfl ?_
  refine sg_43_8 hr dX12_matchEdge_351 fl1470 ?_
  refine rw_bipush (v := 12) dX12_matchEdge_354 (by decide) ?_
  refine rw_iload_n dX12_matchEdge_356 4 rfl rfl ?_
  refine rw_imul dX12_matchEdge_357 ?_
  refine rw_iload dX12_matchEdge_358 10 rfl ?_
  refine rw_iadd dX12_matchEdge_360 ?_
  obtain ⟨hi27, hf⟩ := grd hf
  refine sl_49 hr dX12_matchEdge_361 (inB_in hi27) ?_
  refine rw_iadd dX12_matchEdge_362 ?_
  refine nmI hf (fun x28 hf => ?_)
  refine rw_istore (lv2 := [(9, .int x28), (8, .int s0), (0, .ref (ad 43)), (1, .int v1), (2, .int v2), (3, .int v3), (4, .int v4), (5, .int v5), (6, .int v6), (7, .int v7), (10, .int v10)]) dX12_matchEdge_363 (by decide) rfl ?_
  refine rw_iinc (v := v10 + 1) (lv2 := [(10, .int (v10 + 1)), (9, .int x28), (8, .int s0), (0, .ref (ad 43)), (1, .int v1), (2, .int v2), (3, .int v3), (4, .int v4), (5, .int v5), (6, .int v6), (7, .int v7)]) dX12_matchEdge_365 10 rfl rfl (by decide) rfl ?_
  refine nmL hf (fun x29 hf => ?_)
  refine rw_goto (tgt := 282) dX12_matchEdge_368 (by decide) ?_
  refine rw_sub [3, 4, 5, 6, 7, 8, 9, 10, 2, 1, 0] rfl ?_
  exact hk282 v1 v2 v3 v4 v5 v6 v7 s0 x28 x29 σ _ hr hf
def lX12_matchEdge_282 (k265 : Int32 → Int32 → Int32 → Int32 → Int32 → Int32 → Int32 → rS → Option (Unit × rS)) : Nat → Int32 → Int32 → Int32 → Int32 → Int32 → Int32 → Int32 → Int32 → Int32 → Int32 → rS → Option (Unit × rS)
  | 0, _, _, _, _, _, _, _, _, _, _, _ => none
  | n + 1, v1, v2, v3, v4, v5, v6, v7, v8, v9, v10, σ => if v5 ≤ v10 then jX12_matchEdge_371 k265 v1 v2 v3 v4 v5 v6 v7 v8 σ else if v8 = ((-1)) then (fX12_pairCost v2 v7 v3 v10 σ).bind fun q17 => (fX12_at (v7 + 1) (v10 + 1) q17.2).bind fun q18 => if inB q18.1 169 then (fX12_at v7 v6 q18.2).bind fun q20 => if inB q20.1 169 then (if ((v9 + q17.1) + (q18.2.2.2.1 62 q18.1.toNatClampNeg)) = (q20.2.2.2.1 62 q20.1.toNatClampNeg) then jX12_matchEdge_346 k265 (lX12_matchEdge_282 k265 n) v1 v2 v3 v4 v5 v6 v7 v9 v10 v10 q20.2 else jX12_matchEdge_346 k265 (lX12_matchEdge_282 k265 n) v1 v2 v3 v4 v5 v6 v7 v9 v10 ((-1)) q20.2) else none else none else jX12_matchEdge_371 k265 v1 v2 v3 v4 v5 v6 v7 v8 σ
set_option maxHeartbeats 4000000 in
theorem t_lX12_matchEdge_282 {G : rG} {ad : Nat → Nat} {o : (Unit × rS)} (k265 : Int32 → Int32 → Int32 → Int32 → Int32 → Int32 → Int32 → rS → Option (Unit × rS)) (hk265 : ∀ (v1 : Int32) (v2 : Int32) (v3 : Int32) (v4 : Int32) (v5 : Int32) (v6 : Int32) (v7 : Int32) (σ : rS) (h : rH), Rep G ad σ h → k265 v1 v2 v3 v4 v5 v6 v7 σ = some o → RW G mX12_matchEdge (rm 1 0 0) (qV G ad o) xN 0 0 265 [(0, .ref (ad 43)), (1, .int v1), (2, .int v2), (3, .int v3), (4, .int v4), (5, .int v5), (6, .int v6), (7, .int v7)] [] h) : ∀ (n : Nat) (v1 : Int32) (v2 : Int32) (v3 : Int32) (v4 : Int32) (v5 : Int32) (v6 : Int32) (v7 : Int32) (v8 : Int32) (v9 : Int32) (v10 : Int32) (σ : rS) (h : rH), Rep G ad σ h → lX12_matchEdge_282 k265 n v1 v2 v3 v4 v5 v6 v7 v8 v9 v10 σ = some o → RW G mX12_matchEdge (rm 1 0 0) (qV G ad o) xN 0 0 282 [(0, .ref (ad 43)), (1, .int v1), (2, .int v2), (3, .int v3), (4, .int v4), (5, .int v5), (6, .int v6), (7, .int v7), (8, .int v8), (9, .int v9), (10, .int v10)] [] h := by
  intro n
  induction n with
  | zero =>
    intro v1 v2 v3 v4 v5 v6 v7 v8 v9 v10 σ h hr hf
    rw [lX12_matchEdge_282] at hf
    cases hf
  | succ n ih =>
    intro v1 v2 v3 v4 v5 v6 v7 v8 v9 v10 σ h hr hf
    rw [lX12_matchEdge_282] at hf
    refine rw_iload dX12_matchEdge_282 10 rfl ?_
    refine rw_iload dX12_matchEdge_284 5 rfl ?_
    refine rw_icmp_ge (tgt := 371) dX12_matchEdge_286 (by decide) (fun c15 => ?_) (fun c15 => ?_)
    · rw [if_pos c15] at hf
      refine rw_sub [0, 1, 2, 3, 4, 5, 6, 7, 8] rfl ?_
      exact t_jX12_matchEdge_371 (ad := ad) (G := G) k265 hk265 v1 v2 v3 v4 v5 v6 v7 v8 σ _ hr hf
    · rw [if_neg c15] at hf
      refine rw_iload dX12_matchEdge_289 8 rfl ?_
      refine rw_iconst (v := (-1)) dX12_matchEdge_291 (by decide) ?_
      refine rw_icmp_ne (tgt := 371) dX12_matchEdge_292 (by decide) (fun c16 => ?_) (fun c16 => ?_)
      · rw [if_neg c16] at hf
        refine rw_sub [0, 1, 2, 3, 4, 5, 6, 7, 8] rfl ?_
        exact t_jX12_matchEdge_371 (ad := ad) (G := G) k265 hk265 v1 v2 v3 v4 v5 v6 v7 v8 σ _ hr hf
      · rw [if_pos c16] at hf
        refine rw_iload dX12_matchEdge_295 9 rfl ?_
        refine rw_aload_n dX12_matchEdge_297 0 rfl rfl ?_
        refine rw_iload_n dX12_matchEdge_298 2 rfl rfl ?_
        refine rw_iload dX12_matchEdge_299 7 rfl ?_
        refine rw_iload_n dX12_matchEdge_301 3 rfl rfl ?_
        refine rw_iload dX12_matchEdge_302 10 rfl ?_
        obtain ⟨q17, hq17, hf⟩ := bnd hf
        refine kV_I (ad := ad) (As := [.int v2, .int v7, .int v3, .int v10]) (st := [.int v9]) dX12_matchEdge_304 calX12_pairCost wm1708 wm1710 wm42 rfl rfl (rc_43 hr) (ci := 12) (by decide) rfl rfl (Nat.le_of_ble_eq_true rfl) ⟨⟨by decide, by decide⟩, by decide, by decide⟩ (cmX12_pairCost hr hq17) (fun h hr => ?_)
        refine rw_iadd dX12_matchEdge_307 ?_
        refine rw_aload_n dX12_matchEdge_308 0 rfl rfl ?_
        refine sg_43_28 hr dX12_matchEdge_309 fl1490 ?_
        refine rw_iload dX12_matchEdge_312 7 rfl ?_
        refine rw_iconst (v := 1) dX12_matchEdge_314 (by decide) ?_
        refine rw_iadd dX12_matchEdge_315 ?_
        refine rw_iload dX12_matchEdge_316 10 rfl ?_
        refine rw_iconst (v := 1) dX12_matchEdge_318 (by decide) ?_
        refine rw_iadd dX12_matchEdge_319 ?_
        obtain ⟨q18, hq18, hf⟩ := bnd hf
        refine kS_I (ad := ad) (As := [.int (v7 + 1), .int (v10 + 1)]) (st := [.ref (ad 62), .int (v9 + q17.1)]) dX12_matchEdge_320 calX12_at wm1705 wm1706 rfl rfl (Nat.le_of_ble_eq_true rfl) ⟨⟨by decide, by decide⟩, by decide, by decide⟩ (cmX12_at hr hq18) (fun h hr => ?_)
        obtain ⟨hi19, hf⟩ := grd hf
        refine sl_62 hr dX12_matchEdge_323 (inB_in hi19) ?_
        refine rw_iadd dX12_matchEdge_324 ?_
        refine rw_aload_n dX12_matchEdge_325 0 rfl rfl ?_
        refine sg_43_28 hr dX12_matchEdge_326 fl1490 ?_
        refine rw_iload dX12_matchEdge_329 7 rfl ?_
        refine rw_iload dX12_matchEdge_331 6 rfl ?_
        obtain ⟨q20, hq20, hf⟩ := bnd hf
        refine kS_I (ad := ad) (As := [.int v7, .int v6]) (st := [.ref (ad 62), .int ((v9 + q17.1) + (q18.2.2.2.1 62 q18.1.toNatClampNeg))]) dX12_matchEdge_333 calX12_at wm1705 wm1706 rfl rfl (Nat.le_of_ble_eq_true rfl) ⟨⟨by decide, by decide⟩, by decide, by decide⟩ (cmX12_at hr hq20) (fun h hr => ?_)
        obtain ⟨hi21, hf⟩ := grd hf
        refine sl_62 hr dX12_matchEdge_336 (inB_in hi21) ?_
        refine rw_icmp_ne (tgt := 345) dX12_matchEdge_337 (by decide) (fun c22 => ?_) (fun c22 => ?_)
        · rw [if_neg c22] at hf
          refine rw_iconst (v := (-1)) dX12_matchEdge_345 (by decide) ?_
          refine rw_sub [0, 1, 2, 3, 4, 5, 6, 7, 9, 10] rfl ?_
          exact t_jX12_matchEdge_346 (ad := ad) (G := G) k265 (lX12_matchEdge_282 k265 n) hk265 ih v1 v2 v3 v4 v5 v6 v7 v9 v10 ((-1)) q20.2 _ hr hf
        · rw [if_pos c22] at hf
          refine rw_iload dX12_matchEdge_340 10 rfl ?_
          refine rw_goto (tgt := 346) dX12_matchEdge_342 (by decide) ?_
          refine rw_sub [0, 1, 2, 3, 4, 5, 6, 7, 9, 10] rfl ?_
          exact t_jX12_matchEdge_346 (ad := ad) (G := G) k265 (lX12_matchEdge_282 k265 n) hk265 ih v1 v2 v3 v4 v5 v6 v7 v9 v10 v10 q20.2 _ hr hf
def lX12_matchEdge_265  : Nat → Int32 → Int32 → Int32 → Int32 → Int32 → Int32 → Int32 → rS → Option (Unit × rS)
  | 0, _, _, _, _, _, _, _, _ => none
  | n + 1, v1, v2, v3, v4, v5, v6, v7, σ => if v4 ≤ v7 then some ((), σ) else lX12_matchEdge_282 (lX12_matchEdge_265 n) 1000 v1 v2 v3 v4 v5 v6 v7 ((-1)) 0 v6 σ
set_option maxHeartbeats 4000000 in
theorem t_lX12_matchEdge_265 {G : rG} {ad : Nat → Nat} {o : (Unit × rS)}   : ∀ (n : Nat) (v1 : Int32) (v2 : Int32) (v3 : Int32) (v4 : Int32) (v5 : Int32) (v6 : Int32) (v7 : Int32) (σ : rS) (h : rH), Rep G ad σ h → lX12_matchEdge_265  n v1 v2 v3 v4 v5 v6 v7 σ = some o → RW G mX12_matchEdge (rm 1 0 0) (qV G ad o) xN 0 0 265 [(0, .ref (ad 43)), (1, .int v1), (2, .int v2), (3, .int v3), (4, .int v4), (5, .int v5), (6, .int v6), (7, .int v7)] [] h := by
  intro n
  induction n with
  | zero =>
    intro v1 v2 v3 v4 v5 v6 v7 σ h hr hf
    rw [lX12_matchEdge_265] at hf
    cases hf
  | succ n ih =>
    intro v1 v2 v3 v4 v5 v6 v7 σ h hr hf
    rw [lX12_matchEdge_265] at hf
    refine rw_iload dX12_matchEdge_265 7 rfl ?_
    refine rw_iload dX12_matchEdge_267 4 rfl ?_
    refine rw_icmp_ge (tgt := 408) dX12_matchEdge_269 (by decide) (fun c14 => ?_) (fun c14 => ?_)
    · rw [if_pos c14] at hf
      replace hf := Option.some.inj hf
      subst hf
      exact rw_return dX12_matchEdge_408 rfl ⟨rfl, hr⟩ (by decide) (by decide)
    · rw [if_neg c14] at hf
      refine rw_iconst (v := (-1)) dX12_matchEdge_272 (by decide) ?_
      refine rw_istore (lv2 := [(8, .int ((-1))), (0, .ref (ad 43)), (1, .int v1), (2, .int v2), (3, .int v3), (4, .int v4), (5, .int v5), (6, .int v6), (7, .int v7)]) dX12_matchEdge_273 (by decide) rfl ?_
      refine rw_iconst (v := 0) dX12_matchEdge_275 (by decide) ?_
      refine rw_istore (lv2 := [(9, .int 0), (8, .int ((-1))), (0, .ref (ad 43)), (1, .int v1), (2, .int v2), (3, .int v3), (4, .int v4), (5, .int v5), (6, .int v6), (7, .int v7)]) dX12_matchEdge_276 (by decide) rfl ?_
      refine rw_iload dX12_matchEdge_278 8 rfl ?_
      refine rw_istore (lv2 := [(10, .int v6), (9, .int 0), (8, .int ((-1))), (0, .ref (ad 43)), (1, .int v1), (2, .int v2), (3, .int v3), (4, .int v4), (5, .int v5), (6, .int v6), (7, .int v7)]) dX12_matchEdge_280 (by decide) rfl ?_
      refine rw_sub [3, 4, 5, 6, 7, 8, 9, 10, 2, 1, 0] rfl ?_
      exact t_lX12_matchEdge_282 (ad := ad) (G := G) (lX12_matchEdge_265 n) ih 1000 v1 v2 v3 v4 v5 v6 v7 ((-1)) 0 v6 σ _ hr hf
def jX12_matchEdge_217 (k34 : Int32 → Int32 → Int32 → Int32 → Int32 → Int32 → rS → Option (Unit × rS)) (k43 : Int32 → Int32 → Int32 → Int32 → Int32 → Int32 → Int32 → rS → Option (Unit × rS)) (v1 : Int32) (v2 : Int32) (v3 : Int32) (v4 : Int32) (v5 : Int32) (v6 : Int32) (v7 : Int32) (v8 : Int32) (σ : rS) : Option (Unit × rS) := (fX12_at v6 v7 σ).bind fun q52 => if inB q52.1 169 then vS (uA q52.2 62 q52.1.toNatClampNeg v8) fun σ54 => vI (v7 + (-1)) fun x55 => k43 v1 v2 v3 v4 v5 v6 x55 σ54 else none
set_option maxHeartbeats 4000000 in
theorem t_jX12_matchEdge_217 {G : rG} {ad : Nat → Nat} {o : (Unit × rS)} (k34 : Int32 → Int32 → Int32 → Int32 → Int32 → Int32 → rS → Option (Unit × rS)) (k43 : Int32 → Int32 → Int32 → Int32 → Int32 → Int32 → Int32 → rS → Option (Unit × rS)) (hk34 : ∀ (v1 : Int32) (v2 : Int32) (v3 : Int32) (v4 : Int32) (v5 : Int32) (v6 : Int32) (σ : rS) (h : rH), Rep G ad σ h → k34 v1 v2 v3 v4 v5 v6 σ = some o → RW G mX12_matchEdge (rm 1 0 0) (qV G ad o) xN 0 0 34 [(0, .ref (ad 43)), (1, .int v1), (2, .int v2), (3, .int v3), (4, .int v4), (5, .int v5), (6, .int v6)] [] h) (hk43 : ∀ (v1 : Int32) (v2 : Int32) (v3 : Int32) (v4 : Int32) (v5 : Int32) (v6 : Int32) (v7 : Int32) (σ : rS) (h : rH), Rep G ad σ h → k43 v1 v2 v3 v4 v5 v6 v7 σ = some o → RW G mX12_matchEdge (rm 1 0 0) (qV G ad o) xN 0 0 43 [(0, .ref (ad 43)), (1, .int v1), (2, .int v2), (3, .int v3), (4, .int v4), (5, .int v5), (6, .int v6), (7, .int v7)] [] h) (v1 : Int32) (v2 : Int32) (v3 : Int32) (v4 : Int32) (v5 : Int32) (v6 : Int32) (v7 : Int32) (v8 : Int32) (σ : rS) (h : rH) (hr : Rep G ad σ h) (hf : jX12_matchEdge_217 k34 k43 v1 v2 v3 v4 v5 v6 v7 v8 σ = some o) : RW G mX12_matchEdge (rm 1 0 0) (qV G ad o) xN 0 0 217 [(0, .ref (ad 43)), (1, .int v1), (2, .int v2), (3, .int v3), (4, .int v4), (5, .int v5), (6, .int v6), (7, .int v7), (8, .int v8)] [] h := by
  unfold jX12_matchEdge_217 at hf
  refine rw_aload_n dX12_matchEdge_217 0 rfl rfl ?_
  refine sg_43_28 hr dX12_matchEdge_218 fl1490 ?_
  refine rw_iload dX12_matchEdge_221 6 rfl ?_
  refine rw_iload dX12_matchEdge_223 7 rfl ?_
  obtain ⟨q52, hq52, hf⟩ := bnd hf
  refine kS_I (ad := ad) (As := [.int v6, .int v7]) (st := [.ref (ad 62)]) dX12_matchEdge_225 calX12_at wm1705 wm1706 rfl rfl (Nat.le_of_ble_eq_true rfl) ⟨⟨by decide, by decide⟩, by decide, by decide⟩ (cmX12_at hr hq52) (fun h hr => ?_)
  refine rw_iload dX12_matchEdge_228 8 rfl ?_
  obtain ⟨hi53, hf⟩ := grd hf
  refine ss_62 hr dX12_matchEdge_230 (inB_in hi53) (fun h hr => ?_)
  refine nmS hf hr (fun σ54 hr hf => ?_)
  refine rw_iinc (v := v7 + (-1)) (lv2 := [(7, .int (v7 + (-1))), (0, .ref (ad 43)), (1, .int v1), (2, .int v2), (3, .int v3), (4, .int v4), (5, .int v5), (6, .int v6), (8, .int v8)]) dX12_matchEdge_231 7 rfl rfl (by decide) rfl ?_
  refine nmL hf (fun x55 hf => ?_)
  refine rw_goto (tgt := 43) dX12_matchEdge_234 (by decide) ?_
  refine rw_sub [1, 2, 3, 4, 5, 6, 7, 0] rfl ?_
  exact hk43 v1 v2 v3 v4 v5 v6 x55 σ54 _ hr hf
def jX12_matchEdge_215 (k34 : Int32 → Int32 → Int32 → Int32 → Int32 → Int32 → rS → Option (Unit × rS)) (k43 : Int32 → Int32 → Int32 → Int32 → Int32 → Int32 → Int32 → rS → Option (Unit × rS)) (v1 : Int32) (v2 : Int32) (v3 : Int32) (v4 : Int32) (v5 : Int32) (v6 : Int32) (v7 : Int32) (s0 : Int32) (σ : rS) : Option (Unit × rS) := jX12_matchEdge_217 k34 k43 v1 v2 v3 v4 v5 v6 v7 s0 σ
set_option maxHeartbeats 4000000 in
theorem t_jX12_matchEdge_215 {G : rG} {ad : Nat → Nat} {o : (Unit × rS)} (k34 : Int32 → Int32 → Int32 → Int32 → Int32 → Int32 → rS → Option (Unit × rS)) (k43 : Int32 → Int32 → Int32 → Int32 → Int32 → Int32 → Int32 → rS → Option (Unit × rS)) (hk34 : ∀ (v1 : Int32) (v2 : Int32) (v3 : Int32) (v4 : Int32) (v5 : Int32) (v6 : Int32) (σ : rS) (h : rH), Rep G ad σ h → k34 v1 v2 v3 v4 v5 v6 σ = some o → RW G mX12_matchEdge (rm 1 0 0) (qV G ad o) xN 0 0 34 [(0, .ref (ad 43)), (1, .int v1), (2, .int v2), (3, .int v3), (4, .int v4), (5, .int v5), (6, .int v6)] [] h) (hk43 : ∀ (v1 : Int32) (v2 : Int32) (v3 : Int32) (v4 : Int32) (v5 : Int32) (v6 : Int32) (v7 : Int32) (σ : rS) (h : rH), Rep G ad σ h → k43 v1 v2 v3 v4 v5 v6 v7 σ = some o → RW G mX12_matchEdge (rm 1 0 0) (qV G ad o) xN 0 0 43 [(0, .ref (ad 43)), (1, .int v1), (2, .int v2), (3, .int v3), (4, .int v4), (5, .int v5), (6, .int v6), (7, .int v7)] [] h) (v1 : Int32) (v2 : Int32) (v3 : Int32) (v4 : Int32) (v5 : Int32) (v6 : Int32) (v7 : Int32) (s0 : Int32) (σ : rS) (h : rH) (hr : Rep G ad σ h) (hf : jX12_matchEdge_215 k34 k43 v1 v2 v3 v4 v5 v6 v7 s0 σ = some o) : RW G mX12_matchEdge (rm 1 0 0) (qV G ad o) xN 0 0 215 [(0, .ref (ad 43)), (1, .int v1), (2, .int v2), (3, .int v3), (4, .int v4), (5, .int v5), (6, .int v6), (7, .int v7)] [.int s0] h := by
  unfold jX12_matchEdge_215 at hf
  refine rw_istore (lv2 := [(8, .int s0), (0, .ref (ad 43)), (1, .int v1), (2, .int v2), (3, .int v3), (4, .int v4), (5, .int v5), (6, .int v6), (7, .int v7)]) dX12_matchEdge_215 (by decide) rfl ?_
  refine rw_sub [1, 2, 3, 4, 5, 6, 7, 8, 0] rfl ?_
  exact t_jX12_matchEdge_217 (ad := ad) (G := G) k34 k43 hk34 hk43 v1 v2 v3 v4 v5 v6 v7 s0 σ _ hr hf
def jX12_matchEdge_158 (k34 : Int32 → Int32 → Int32 → Int32 → Int32 → Int32 → rS → Option (Unit × rS)) (k43 : Int32 → Int32 → Int32 → Int32 → Int32 → Int32 → Int32 → rS → Option (Unit × rS)) (v1 : Int32) (v2 : Int32) (v3 : Int32) (v4 : Int32) (v5 : Int32) (v6 : Int32) (v7 : Int32) (v8 : Int32) (σ : rS) : Option (Unit × rS) := if v4 ≤ v6 then jX12_matchEdge_217 k34 k43 v1 v2 v3 v4 v5 v6 v7 v8 σ else if v5 ≤ v7 then jX12_matchEdge_217 k34 k43 v1 v2 v3 v4 v5 v6 v7 v8 σ else (fX12_pairCost v2 v6 v3 v7 σ).bind fun q47 => (fX12_at (v6 + 1) (v7 + 1) q47.2).bind fun q48 => if inB q48.1 169 then vI (q47.1 + (q48.2.2.2.1 62 q48.1.toNatClampNeg)) fun x50 => (if v8 ≤ x50 then jX12_matchEdge_215 k34 k43 v1 v2 v3 v4 v5 v6 v7 v8 q48.2 else jX12_matchEdge_215 k34 k43 v1 v2 v3 v4 v5 v6 v7 x50 q48.2) else none
set_option maxHeartbeats 4000000 in
theorem t_jX12_matchEdge_158 {G : rG} {ad : Nat → Nat} {o : (Unit × rS)} (k34 : Int32 → Int32 → Int32 → Int32 → Int32 → Int32 → rS → Option (Unit × rS)) (k43 : Int32 → Int32 → Int32 → Int32 → Int32 → Int32 → Int32 → rS → Option (Unit × rS)) (hk34 : ∀ (v1 : Int32) (v2 : Int32) (v3 : Int32) (v4 : Int32) (v5 : Int32) (v6 : Int32) (σ : rS) (h : rH), Rep G ad σ h → k34 v1 v2 v3 v4 v5 v6 σ = some o → RW G mX12_matchEdge (rm 1 0 0) (qV G ad o) xN 0 0 34 [(0, .ref (ad 43)), (1, .int v1), (2, .int v2), (3, .int v3), (4, .int v4), (5, .int v5), (6, .int v6)] [] h) (hk43 : ∀ (v1 : Int32) (v2 : Int32) (v3 : Int32) (v4 : Int32) (v5 : Int32) (v6 : Int32) (v7 : Int32) (σ : rS) (h : rH), Rep G ad σ h → k43 v1 v2 v3 v4 v5 v6 v7 σ = some o → RW G mX12_matchEdge (rm 1 0 0) (qV G ad o) xN 0 0 43 [(0, .ref (ad 43)), (1, .int v1), (2, .int v2), (3, .int v3), (4, .int v4), (5, .int v5), (6, .int v6), (7, .int v7)] [] h) (v1 : Int32) (v2 : Int32) (v3 : Int32) (v4 : Int32) (v5 : Int32) (v6 : Int32) (v7 : Int32) (v8 : Int32) (σ : rS) (h : rH) (hr : Rep G ad σ h) (hf : jX12_matchEdge_158 k34 k43 v1 v2 v3 v4 v5 v6 v7 v8 σ = some o) : RW G mX12_matchEdge (rm 1 0 0) (qV G ad o) xN 0 0 158 [(0, .ref (ad 43)), (1, .int v1), (2, .int v2), (3, .int v3), (4, .int v4), (5, .int v5), (6, .int v6), (7, .int v7), (8, .int v8)] [] h := by
  unfold jX12_matchEdge_158 at hf
  refine rw_iload dX12_matchEdge_158 6 rfl ?_
  refine rw_iload dX12_matchEdge_160 4 rfl ?_
  refine rw_icmp_ge (tgt := 217) dX12_matchEdge_162 (by decide) (fun c45 => ?_) (fun c45 => ?_)
  · rw [if_pos c45] at hf
    exact t_jX12_matchEdge_217 (ad := ad) (G := G) k34 k43 hk34 hk43 v1 v2 v3 v4 v5 v6 v7 v8 σ _ hr hf
  · rw [if_neg c45] at hf
    refine rw_iload dX12_matchEdge_165 7 rfl ?_
    refine rw_iload dX12_matchEdge_167 5 rfl ?_
    refine rw_icmp_ge (tgt := 217) dX12_matchEdge_169 (by decide) (fun c46 => ?_) (fun c46 => ?_)
    · rw [if_pos c46] at hf
      exact t_jX12_matchEdge_217 (ad := ad) (G := G) k34 k43 hk34 hk43 v1 v2 v3 v4 v5 v6 v7 v8 σ _ hr hf
    · rw [if_neg c46] at hf
      refine rw_aload_n dX12_matchEdge_172 0 rfl rfl ?_
      refine rw_iload_n dX12_matchEdge_173 2 rfl rfl ?_
      refine rw_iload dX12_matchEdge_174 6 rfl ?_
      refine rw_iload_n dX12_matchEdge_176 3 rfl rfl ?_
      refine rw_iload dX12_matchEdge_177 7 rfl ?_
      obtain ⟨q47, hq47, hf⟩ := bnd hf
      refine kV_I (ad := ad) (As := [.int v2, .int v6, .int v3, .int v7]) (st := []) dX12_matchEdge_179 calX12_pairCost wm1708 wm1710 wm42 rfl rfl (rc_43 hr) (ci := 12) (by decide) rfl rfl (Nat.le_of_ble_eq_true rfl) ⟨⟨by decide, by decide⟩, by decide, by decide⟩ (cmX12_pairCost hr hq47) (fun h hr => ?_)
      refine rw_aload_n dX12_matchEdge_182 0 rfl rfl ?_
      refine sg_43_28 hr dX12_matchEdge_183 fl1490 ?_
      refine rw_iload dX12_matchEdge_186 6 rfl ?_
      refine rw_iconst (v := 1) dX12_matchEdge_188 (by decide) ?_
      refine rw_iadd dX12_matchEdge_189 ?_
      refine rw_iload dX12_matchEdge_190 7 rfl ?_
      refine rw_iconst (v := 1) dX12_matchEdge_192 (by decide) ?_
      refine rw_iadd dX12_matchEdge_193 ?_
      obtain ⟨q48, hq48, hf⟩ := bnd hf
      refine kS_I (ad := ad) (As := [.int (v6 + 1), .int (v7 + 1)]) (st := [.ref (ad 62), .int q47.1]) dX12_matchEdge_194 calX12_at wm1705 wm1706 rfl rfl (Nat.le_of_ble_eq_true rfl) ⟨⟨by decide, by decide⟩, by decide, by decide⟩ (cmX12_at hr hq48) (fun h hr => ?_)
      obtain ⟨hi49, hf⟩ := grd hf
      refine sl_62 hr dX12_matchEdge_197 (inB_in hi49) ?_
      refine rw_iadd dX12_matchEdge_198 ?_
      refine nmI hf (fun x50 hf => ?_)
      refine rw_istore (lv2 := [(9, .int x50), (0, .ref (ad 43)), (1, .int v1), (2, .int v2), (3, .int v3), (4, .int v4), (5, .int v5), (6, .int v6), (7, .int v7), (8, .int v8)]) dX12_matchEdge_199 (by decide) rfl ?_
      refine rw_iload dX12_matchEdge_201 0 rfl ?_
      refine rw_iload dX12_matchEdge_203 9 rfl ?_
      refine rw_icmp_ge (tgt := 213) dX12_matchEdge_205 (by decide) (fun c51 => ?_) (fun c51 => ?_)
      · rw [if_pos c51] at hf
        refine rw_iload dX12_matchEdge_213 9 rfl ?_
        refine rw_sub [1, 2, 3, 4, 5, 6, 7, 8] rfl ?_
        exact t_jX12_matchEdge_215 (ad := ad) (G := G) k34 k43 hk34 hk43 v1 v2 v3 v4 v5 v6 v7 v8 q48.2 _ hr hf
      · rw [if_neg c51] at hf
        refine rw_iload dX12_matchEdge_208 0 rfl ?_
        refine rw_goto (tgt := 215) dX12_matchEdge_210 (by decide) ?_
        refine rw_sub [1, 2, 3, 4, 5, 6, 7, 8] rfl ?_
        exact t_jX12_matchEdge_215 (ad := ad) (G := G) k34 k43 hk34 hk43 v1 v2 v3 v4 v5 v6 v7 x50 q48.2 _ hr hf
def jX12_matchEdge_156 (k34 : Int32 → Int32 → Int32 → Int32 → Int32 → Int32 → rS → Option (Unit × rS)) (k43 : Int32 → Int32 → Int32 → Int32 → Int32 → Int32 → Int32 → rS → Option (Unit × rS)) (v1 : Int32) (v2 : Int32) (v3 : Int32) (v4 : Int32) (v5 : Int32) (v6 : Int32) (v7 : Int32) (s0 : Int32) (σ : rS) : Option (Unit × rS) := jX12_matchEdge_158 k34 k43 v1 v2 v3 v4 v5 v6 v7 s0 σ
set_option maxHeartbeats 4000000 in
theorem t_jX12_matchEdge_156 {G : rG} {ad : Nat → Nat} {o : (Unit × rS)} (k34 : Int32 → Int32 → Int32 → Int32 → Int32 → Int32 → rS → Option (Unit × rS)) (k43 : Int32 → Int32 → Int32 → Int32 → Int32 → Int32 → Int32 → rS → Option (Unit × rS)) (hk34 : ∀ (v1 : Int32) (v2 : Int32) (v3 : Int32) (v4 : Int32) (v5 : Int32) (v6 : Int32) (σ : rS) (h : rH), Rep G ad σ h → k34 v1 v2 v3 v4 v5 v6 σ = some o → RW G mX12_matchEdge (rm 1 0 0) (qV G ad o) xN 0 0 34 [(0, .ref (ad 43)), (1, .int v1), (2, .int v2), (3, .int v3), (4, .int v4), (5, .int v5), (6, .int v6)] [] h) (hk43 : ∀ (v1 : Int32) (v2 : Int32) (v3 : Int32) (v4 : Int32) (v5 : Int32) (v6 : Int32) (v7 : Int32) (σ : rS) (h : rH), Rep G ad σ h → k43 v1 v2 v3 v4 v5 v6 v7 σ = some o → RW G mX12_matchEdge (rm 1 0 0) (qV G ad o) xN 0 0 43 [(0, .ref (ad 43)), (1, .int v1), (2, .int v2), (3, .int v3), (4, .int v4), (5, .int v5), (6, .int v6), (7, .int v7)] [] h) (v1 : Int32) (v2 : Int32) (v3 : Int32) (v4 : Int32) (v5 : Int32) (v6 : Int32) (v7 : Int32) (s0 : Int32) (σ : rS) (h : rH) (hr : Rep G ad σ h) (hf : jX12_matchEdge_156 k34 k43 v1 v2 v3 v4 v5 v6 v7 s0 σ = some o) : RW G mX12_matchEdge (rm 1 0 0) (qV G ad o) xN 0 0 156 [(0, .ref (ad 43)), (1, .int v1), (2, .int v2), (3, .int v3), (4, .int v4), (5, .int v5), (6, .int v6), (7, .int v7)] [.int s0] h := by
  unfold jX12_matchEdge_156 at hf
  refine rw_istore (lv2 := [(8, .int s0), (0, .ref (ad 43)), (1, .int v1), (2, .int v2), (3, .int v3), (4, .int v4), (5, .int v5), (6, .int v6), (7, .int v7)]) dX12_matchEdge_156 (by decide) rfl ?_
  refine rw_sub [1, 2, 3, 4, 5, 6, 7, 8, 0] rfl ?_
  exact t_jX12_matchEdge_158 (ad := ad) (G := G) k34 k43 hk34 hk43 v1 v2 v3 v4 v5 v6 v7 s0 σ _ hr hf
def jX12_matchEdge_106 (k34 : Int32 → Int32 → Int32 → Int32 → Int32 → Int32 → rS → Option (Unit × rS)) (k43 : Int32 → Int32 → Int32 → Int32 → Int32 → Int32 → Int32 → rS → Option (Unit × rS)) (v1 : Int32) (v2 : Int32) (v3 : Int32) (v4 : Int32) (v5 : Int32) (v6 : Int32) (v7 : Int32) (v8 : Int32) (σ : rS) : Option (Unit × rS) := if v5 ≤ v7 then jX12_matchEdge_158 k34 k43 v1 v2 v3 v4 v5 v6 v7 v8 σ else if inB ((12 * v3) + v7) 192 then (fX12_at v6 (v7 + 1) σ).bind fun q41 => if inB q41.1 169 then vI ((σ.2.2.1 49 ((12 * v3) + v7).toNatClampNeg) + (q41.2.2.2.1 62 q41.1.toNatClampNeg)) fun x43 => (if v8 ≤ x43 then jX12_matchEdge_156 k34 k43 v1 v2 v3 v4 v5 v6 v7 v8 q41.2 else jX12_matchEdge_156 k34 k43 v1 v2 v3 v4 v5 v6 v7 x43 q41.2) else none else none
set_option maxHeartbeats 4000000 in
theorem t_jX12_matchEdge_106 {G : rG} {ad : Nat → Nat} {o : (Unit × rS)} (k34 : Int32 → Int32 → Int32 → Int32 → Int32 → Int32 → rS → Option (Unit × rS)) (k43 : Int32 → Int32 → Int32 → Int32 → Int32 → Int32 → Int32 → rS → Option (Unit × rS)) (hk34 : ∀ (v1 : Int32) (v2 : Int32) (v3 : Int32) (v4 : Int32) (v5 : Int32) (v6 : Int32) (σ : rS) (h : rH), Rep G ad σ h → k34 v1 v2 v3 v4 v5 v6 σ = some o → RW G mX12_matchEdge (rm 1 0 0) (qV G ad o) xN 0 0 34 [(0, .ref (ad 43)), (1, .int v1), (2, .int v2), (3, .int v3), (4, .int v4), (5, .int v5), (6, .int v6)] [] h) (hk43 : ∀ (v1 : Int32) (v2 : Int32) (v3 : Int32) (v4 : Int32) (v5 : Int32) (v6 : Int32) (v7 : Int32) (σ : rS) (h : rH), Rep G ad σ h → k43 v1 v2 v3 v4 v5 v6 v7 σ = some o → RW G mX12_matchEdge (rm 1 0 0) (qV G ad o) xN 0 0 43 [(0, .ref (ad 43)), (1, .int v1), (2, .int v2), (3, .int v3), (4, .int v4), (5, .int v5), (6, .int v6), (7, .int v7)] [] h) (v1 : Int32) (v2 : Int32) (v3 : Int32) (v4 : Int32) (v5 : Int32) (v6 : Int32) (v7 : Int32) (v8 : Int32) (σ : rS) (h : rH) (hr : Rep G ad σ h) (hf : jX12_matchEdge_106 k34 k43 v1 v2 v3 v4 v5 v6 v7 v8 σ = some o) : RW G mX12_matchEdge (rm 1 0 0) (qV G ad o) xN 0 0 106 [(0, .ref (ad 43)), (1, .int v1), (2, .int v2), (3, .int v3), (4, .int v4), (5, .int v5), (6, .int v6), (7, .int v7), (8, .int v8)] [] h := by
  unfold jX12_matchEdge_106 at hf
  refine rw_iload dX12_matchEdge_106 7 rfl ?_
  refine rw_iload dX12_matchEdge_108 5 rfl ?_
  refine rw_icmp_ge (tgt := 158) dX12_matchEdge_110 (by decide) (fun c39 => ?_) (fun c39 => ?_)
  · rw [if_pos c39] at hf
    exact t_jX12_matchEdge_158 (ad := ad) (G := G) k34 k43 hk34 hk43 v1 v2 v3 v4 v5 v6 v7 v8 σ _ hr hf
  · rw [if_neg c39] at hf
    refine rw_aload_n dX12_matchEdge_113 0 rfl rfl ?_
    refine sg_43_8 hr dX12_matchEdge_114 fl1470 ?_
    refine rw_bipush (v := 12) dX12_matchEdge_117 (by decide) ?_
    refine rw_iload_n dX12_matchEdge_119 3 rfl rfl ?_
    refine rw_imul dX12_matchEdge_120 ?_
    refine rw_iload dX12_matchEdge_121 7 rfl ?_
    refine rw_iadd dX12_matchEdge_123 ?_
    obtain ⟨hi40, hf⟩ := grd hf
    refine sl_49 hr dX12_matchEdge_124 (inB_in hi40) ?_
    refine rw_aload_n dX12_matchEdge_125 0 rfl rfl ?_
    refine sg_43_28 hr dX12_matchEdge_126 fl1490 ?_
    refine rw_iload dX12_matchEdge_129 6 rfl ?_
    refine rw_iload dX12_matchEdge_131 7 rfl ?_
    refine rw_iconst (v := 1) dX12_matchEdge_133 (by decide) ?_
    refine rw_iadd dX12_matchEdge_134 ?_
    obtain ⟨q41, hq41, hf⟩ := bnd hf
    refine kS_I (ad := ad) (As := [.int v6, .int (v7 + 1)]) (st := [.ref (ad 62), .int (σ.2.2.1 49 ((12 * v3) + v7).toNatClampNeg)]) dX12_matchEdge_135 calX12_at wm1705 wm1706 rfl rfl (Nat.le_of_ble_eq_true rfl) ⟨⟨by decide, by decide⟩, by decide, by decide⟩ (cmX12_at hr hq41) (fun h hr => ?_)
    obtain ⟨hi42, hf⟩ := grd hf
    refine sl_62 hr dX12_matchEdge_138 (inB_in hi42) ?_
    refine rw_iadd dX12_matchEdge_139 ?_
    refine nmI hf (fun x43 hf => ?_)
    refine rw_istore (lv2 := [(9, .int x43), (0, .ref (ad 43)), (1, .int v1), (2, .int v2), (3, .int v3), (4, .int v4), (5, .int v5), (6, .int v6), (7, .int v7), (8, .int v8)]) dX12_matchEdge_140 (by decide) rfl ?_
    refine rw_iload dX12_matchEdge_142 0 rfl ?_
    refine rw_iload dX12_matchEdge_144 9 rfl ?_
    refine rw_icmp_ge (tgt := 154) dX12_matchEdge_146 (by decide) (fun c44 => ?_) (fun c44 => ?_)
    · rw [if_pos c44] at hf
      refine rw_iload dX12_matchEdge_154 9 rfl ?_
      refine rw_sub [1, 2, 3, 4, 5, 6, 7, 8] rfl ?_
      exact t_jX12_matchEdge_156 (ad := ad) (G := G) k34 k43 hk34 hk43 v1 v2 v3 v4 v5 v6 v7 v8 q41.2 _ hr hf
    · rw [if_neg c44] at hf
      refine rw_iload dX12_matchEdge_149 0 rfl ?_
      refine rw_goto (tgt := 156) dX12_matchEdge_151 (by decide) ?_
      refine rw_sub [1, 2, 3, 4, 5, 6, 7, 8] rfl ?_
      exact t_jX12_matchEdge_156 (ad := ad) (G := G) k34 k43 hk34 hk43 v1 v2 v3 v4 v5 v6 v7 x43 q41.2 _ hr hf
def jX12_matchEdge_68 (k34 : Int32 → Int32 → Int32 → Int32 → Int32 → Int32 → rS → Option (Unit × rS)) (k43 : Int32 → Int32 → Int32 → Int32 → Int32 → Int32 → Int32 → rS → Option (Unit × rS)) (v1 : Int32) (v2 : Int32) (v3 : Int32) (v4 : Int32) (v5 : Int32) (v6 : Int32) (v7 : Int32) (s0 : Int32) (σ : rS) : Option (Unit × rS) := if v4 ≤ v6 then jX12_matchEdge_106 k34 k43 v1 v2 v3 v4 v5 v6 v7 s0 σ else if inB ((12 * v2) + v6) 192 then (fX12_at (v6 + 1) v7 σ).bind fun q36 => if inB q36.1 169 then vI ((σ.2.2.1 49 ((12 * v2) + v6).toNatClampNeg) + (q36.2.2.2.1 62 q36.1.toNatClampNeg)) fun x38 => jX12_matchEdge_106 k34 k43 v1 v2 v3 v4 v5 v6 v7 x38 q36.2 else none else none
set_option maxHeartbeats 4000000 in
theorem t_jX12_matchEdge_68 {G : rG} {ad : Nat → Nat} {o : (Unit × rS)} (k34 : Int32 → Int32 → Int32 → Int32 → Int32 → Int32 → rS → Option (Unit × rS)) (k43 : Int32 → Int32 → Int32 → Int32 → Int32 → Int32 → Int32 → rS → Option (Unit × rS)) (hk34 : ∀ (v1 : Int32) (v2 : Int32) (v3 : Int32) (v4 : Int32) (v5 : Int32) (v6 : Int32) (σ : rS) (h : rH), Rep G ad σ h → k34 v1 v2 v3 v4 v5 v6 σ = some o → RW G mX12_matchEdge (rm 1 0 0) (qV G ad o) xN 0 0 34 [(0, .ref (ad 43)), (1, .int v1), (2, .int v2), (3, .int v3), (4, .int v4), (5, .int v5), (6, .int v6)] [] h) (hk43 : ∀ (v1 : Int32) (v2 : Int32) (v3 : Int32) (v4 : Int32) (v5 : Int32) (v6 : Int32) (v7 : Int32) (σ : rS) (h : rH), Rep G ad σ h → k43 v1 v2 v3 v4 v5 v6 v7 σ = some o → RW G mX12_matchEdge (rm 1 0 0) (qV G ad o) xN 0 0 43 [(0, .ref (ad 43)), (1, .int v1), (2, .int v2), (3, .int v3), (4, .int v4), (5, .int v5), (6, .int v6), (7, .int v7)] [] h) (v1 : Int32) (v2 : Int32) (v3 : Int32) (v4 : Int32) (v5 : Int32) (v6 : Int32) (v7 : Int32) (s0 : Int32) (σ : rS) (h : rH) (hr : Rep G ad σ h) (hf : jX12_matchEdge_68 k34 k43 v1 v2 v3 v4 v5 v6 v7 s0 σ = some o) : RW G mX12_matchEdge (rm 1 0 0) (qV G ad o) xN 0 0 68 [(0, .ref (ad 43)), (1, .int v1), (2, .int v2), (3, .int v3), (4, .int v4), (5, .int v5), (6, .int v6), (7, .int v7)] [.int s0] h := by
  unfold jX12_matchEdge_68 at hf
  refine rw_istore (lv2 := [(8, .int s0), (0, .ref (ad 43)), (1, .int v1), (2, .int v2), (3, .int v3), (4, .int v4), (5, .int v5), (6, .int v6), (7, .int v7)]) dX12_matchEdge_68 (by decide) rfl ?_
  refine rw_iload dX12_matchEdge_70 7 rfl ?_
  refine rw_iload dX12_matchEdge_72 5 rfl ?_
  refine rw_icmp_ge (tgt := 106) dX12_matchEdge_74 (by decide) (fun c34 => ?_) (fun c34 => ?_)
  · rw [if_pos c34] at hf
    refine rw_sub [1, 2, 3, 4, 5, 6, 7, 8, 0] rfl ?_
    exact t_jX12_matchEdge_106 (ad := ad) (G := G) k34 k43 hk34 hk43 v1 v2 v3 v4 v5 v6 v7 s0 σ _ hr hf
  · rw [if_neg c34] at hf
    refine rw_aload_n dX12_matchEdge_77 1 rfl rfl ?_
    refine sg_43_8 hr dX12_matchEdge_78 fl1470 ?_
    refine rw_bipush (v := 12) dX12_matchEdge_81 (by decide) ?_
    refine rw_iload_n dX12_matchEdge_83 3 rfl rfl ?_
    refine rw_imul dX12_matchEdge_84 ?_
    refine rw_iload dX12_matchEdge_85 7 rfl ?_
    refine rw_iadd dX12_matchEdge_87 ?_
    obtain ⟨hi35, hf⟩ := grd hf
    refine sl_49 hr dX12_matchEdge_88 (inB_in hi35) ?_
    refine rw_aload_n dX12_matchEdge_89 1 rfl rfl ?_
    refine sg_43_28 hr dX12_matchEdge_90 fl1490 ?_
    refine rw_iload dX12_matchEdge_93 7 rfl ?_
    refine rw_iconst (v := 1) dX12_matchEdge_95 (by decide) ?_
    refine rw_iadd dX12_matchEdge_96 ?_
    refine rw_iload dX12_matchEdge_97 8 rfl ?_
    obtain ⟨q36, hq36, hf⟩ := bnd hf
    refine kS_I (ad := ad) (As := [.int (v6 + 1), .int v7]) (st := [.ref (ad 62), .int (σ.2.2.1 49 ((12 * v2) + v6).toNatClampNeg)]) dX12_matchEdge_99 calX12_at wm1705 wm1706 rfl rfl (Nat.le_of_ble_eq_true rfl) ⟨⟨by decide, by decide⟩, by decide, by decide⟩ (cmX12_at hr hq36) (fun h hr => ?_)
    obtain ⟨hi37, hf⟩ := grd hf
    refine sl_62 hr dX12_matchEdge_102 (inB_in hi37) ?_
    refine rw_iadd dX12_matchEdge_103 ?_
    refine nmI hf (fun x38 hf => ?_)
    refine rw_istore (lv2 := [(8, .int x38), (0, .ref (ad 43)), (1, .int v1), (2, .int v2), (3, .int v3), (4, .int v4), (5, .int v5), (6, .int v6), (7, .int v7)]) dX12_matchEdge_104 (by decide) rfl ?_
    refine rw_sub [1, 2, 3, 4, 5, 6, 7, 8, 0] rfl ?_
    exact t_jX12_matchEdge_106 (ad := ad) (G := G) k34 k43 hk34 hk43 v1 v2 v3 v4 v5 v6 v7 x38 q36.2 _ hr hf
def jX12_matchEdge_66 (k34 : Int32 → Int32 → Int32 → Int32 → Int32 → Int32 → rS → Option (Unit × rS)) (k43 : Int32 → Int32 → Int32 → Int32 → Int32 → Int32 → Int32 → rS → Option (Unit × rS)) (v1 : Int32) (v2 : Int32) (v3 : Int32) (v4 : Int32) (v5 : Int32) (v6 : Int32) (v7 : Int32) (σ : rS) : Option (Unit × rS) := jX12_matchEdge_68 k34 k43 v1 v2 v3 v4 v5 v6 v7 1000000000 σ
set_option maxHeartbeats 4000000 in
theorem t_jX12_matchEdge_66 {G : rG} {ad : Nat → Nat} {o : (Unit × rS)} (k34 : Int32 → Int32 → Int32 → Int32 → Int32 → Int32 → rS → Option (Unit × rS)) (k43 : Int32 → Int32 → Int32 → Int32 → Int32 → Int32 → Int32 → rS → Option (Unit × rS)) (hk34 : ∀ (v1 : Int32) (v2 : Int32) (v3 : Int32) (v4 : Int32) (v5 : Int32) (v6 : Int32) (σ : rS) (h : rH), Rep G ad σ h → k34 v1 v2 v3 v4 v5 v6 σ = some o → RW G mX12_matchEdge (rm 1 0 0) (qV G ad o) xN 0 0 34 [(0, .ref (ad 43)), (1, .int v1), (2, .int v2), (3, .int v3), (4, .int v4), (5, .int v5), (6, .int v6)] [] h) (hk43 : ∀ (v1 : Int32) (v2 : Int32) (v3 : Int32) (v4 : Int32) (v5 : Int32) (v6 : Int32) (v7 : Int32) (σ : rS) (h : rH), Rep G ad σ h → k43 v1 v2 v3 v4 v5 v6 v7 σ = some o → RW G mX12_matchEdge (rm 1 0 0) (qV G ad o) xN 0 0 43 [(0, .ref (ad 43)), (1, .int v1), (2, .int v2), (3, .int v3), (4, .int v4), (5, .int v5), (6, .int v6), (7, .int v7)] [] h) (v1 : Int32) (v2 : Int32) (v3 : Int32) (v4 : Int32) (v5 : Int32) (v6 : Int32) (v7 : Int32) (σ : rS) (h : rH) (hr : Rep G ad σ h) (hf : jX12_matchEdge_66 k34 k43 v1 v2 v3 v4 v5 v6 v7 σ = some o) : RW G mX12_matchEdge (rm 1 0 0) (qV G ad o) xN 0 0 66 [(0, .ref (ad 43)), (1, .int v1), (2, .int v2), (3, .int v3), (4, .int v4), (5, .int v5), (6, .int v6), (7, .int v7)] [] h := by
  unfold jX12_matchEdge_66 at hf
  refine rw_ldc (v := 1000000000) dX12_matchEdge_66 wm1704 ?_
  exact t_jX12_matchEdge_68 (ad := ad) (G := G) k34 k43 hk34 hk43 v1 v2 v3 v4 v5 v6 v7 1000000000 σ _ hr hf
def lX12_matchEdge_43 (k34 : Int32 → Int32 → Int32 → Int32 → Int32 → Int32 → rS → Option (Unit × rS)) : Nat → Int32 → Int32 → Int32 → Int32 → Int32 → Int32 → Int32 → rS → Option (Unit × rS)
  | 0, _, _, _, _, _, _, _, _ => none
  | n + 1, v1, v2, v3, v4, v5, v6, v7, σ => if v7 < 0 then vI (v6 + (-1)) fun x31 => k34 v1 v2 v3 v4 v5 x31 σ else if v6 = v4 then if v7 = v5 then jX12_matchEdge_68 k34 (lX12_matchEdge_43 k34 n) v1 v2 v3 v4 v5 v6 v7 0 σ else jX12_matchEdge_66 k34 (lX12_matchEdge_43 k34 n) v1 v2 v3 v4 v5 v6 v7 σ else jX12_matchEdge_66 k34 (lX12_matchEdge_43 k34 n) v1 v2 v3 v4 v5 v6 v7 σ
set_option maxHeartbeats 4000000 in
theorem t_lX12_matchEdge_43 {G : rG} {ad : Nat → Nat} {o : (Unit × rS)} (k34 : Int32 → Int32 → Int32 → Int32 → Int32 → Int32 → rS → Option (Unit × rS)) (hk34 : ∀ (v1 : Int32) (v2 : Int32) (v3 : Int32) (v4 : Int32) (v5 : Int32) (v6 : Int32) (σ : rS) (h : rH), Rep G ad σ h → k34 v1 v2 v3 v4 v5 v6 σ = some o → RW G mX12_matchEdge (rm 1 0 0) (qV G ad o) xN 0 0 34 [(0, .ref (ad 43)), (1, .int v1), (2, .int v2), (3, .int v3), (4, .int v4), (5, .int v5), (6, .int v6)] [] h) : ∀ (n : Nat) (v1 : Int32) (v2 : Int32) (v3 : Int32) (v4 : Int32) (v5 : Int32) (v6 : Int32) (v7 : Int32) (σ : rS) (h : rH), Rep G ad σ h → lX12_matchEdge_43 k34 n v1 v2 v3 v4 v5 v6 v7 σ = some o → RW G mX12_matchEdge (rm 1 0 0) (qV G ad o) xN 0 0 43 [(0, .ref (ad 43)), (1, .int v1), (2, .int v2), (3, .int v3), (4, .int v4), (5, .int v5), (6, .int v6), (7, .int v7)] [] h := by
  intro n
  induction n with
  | zero =>
    intro v1 v2 v3 v4 v5 v6 v7 σ h hr hf
    rw [lX12_matchEdge_43] at hf
    cases hf
  | succ n ih =>
    intro v1 v2 v3 v4 v5 v6 v7 σ h hr hf
    rw [lX12_matchEdge_43] at hf
    refine rw_iload dX12_matchEdge_43 7 rfl ?_
    refine rw_if_lt (tgt := 237) dX12_matchEdge_45 (by decide) (fun c30 => ?_) (fun c30 => ?_)
    · rw [if_pos c30] at hf
      refine rw_iinc (v := v6 + (-1)) (lv2 := [(6, .int (v6 + (-1))), (0, .ref (ad 43)), (1, .int v1), (2, .int v2), (3, .int v3), (4, .int v4), (5, .int v5), (7, .int v7)]) dX12_matchEdge_237 6 rfl rfl (by decide) rfl ?_
      refine nmL hf (fun x31 hf => ?_)
      refine rw_goto (tgt := 34) dX12_matchEdge_240 (by decide) ?_
      refine rw_sub [1, 2, 3, 4, 5, 6, 0] rfl ?_
      exact hk34 v1 v2 v3 v4 v5 x31 σ _ hr hf
    · rw [if_neg c30] at hf
      refine rw_iload dX12_matchEdge_48 6 rfl ?_
      refine rw_iload dX12_matchEdge_50 4 rfl ?_
      refine rw_icmp_ne (tgt := 66) dX12_matchEdge_52 (by decide) (fun c32 => ?_) (fun c32 => ?_)
      · rw [if_neg c32] at hf
        exact t_jX12_matchEdge_66 (ad := ad) (G := G) k34 (lX12_matchEdge_43 k34 n) hk34 ih v1 v2 v3 v4 v5 v6 v7 σ _ hr hf
      · rw [if_pos c32] at hf
        refine rw_iload dX12_matchEdge_55 7 rfl ?_
        refine rw_iload dX12_matchEdge_57 5 rfl ?_
        refine rw_icmp_ne (tgt := 66) dX12_matchEdge_59 (by decide) (fun c33 => ?_) (fun c33 => ?_)
        · rw [if_neg c33] at hf
          exact t_jX12_matchEdge_66 (ad := ad) (G := G) k34 (lX12_matchEdge_43 k34 n) hk34 ih v1 v2 v3 v4 v5 v6 v7 σ _ hr hf
        · rw [if_pos c33] at hf
          refine rw_iconst (v := 0) dX12_matchEdge_62 (by decide) ?_
          refine rw_goto (tgt := 68) dX12_matchEdge_63 (by decide) ?_
          exact t_jX12_matchEdge_68 (ad := ad) (G := G) k34 (lX12_matchEdge_43 k34 n) hk34 ih v1 v2 v3 v4 v5 v6 v7 0 σ _ hr hf
def lX12_matchEdge_34  : Nat → Int32 → Int32 → Int32 → Int32 → Int32 → Int32 → rS → Option (Unit × rS)
  | 0, _, _, _, _, _, _, _ => none
  | n + 1, v1, v2, v3, v4, v5, v6, σ => if v6 < 0 then (fX12_at 0 0 σ).bind fun q10 => if inB q10.1 169 then if inB v1 120 then vS (uA q10.2 58 v1.toNatClampNeg (q10.2.2.2.1 62 q10.1.toNatClampNeg)) fun σ13 => lX12_matchEdge_265 1000 v1 v2 v3 v4 v5 0 0 σ13 else none else none else lX12_matchEdge_43 (lX12_matchEdge_34 n) 1000 v1 v2 v3 v4 v5 v6 v5 σ
set_option maxHeartbeats 4000000 in
theorem t_lX12_matchEdge_34 {G : rG} {ad : Nat → Nat} {o : (Unit × rS)}   : ∀ (n : Nat) (v1 : Int32) (v2 : Int32) (v3 : Int32) (v4 : Int32) (v5 : Int32) (v6 : Int32) (σ : rS) (h : rH), Rep G ad σ h → lX12_matchEdge_34  n v1 v2 v3 v4 v5 v6 σ = some o → RW G mX12_matchEdge (rm 1 0 0) (qV G ad o) xN 0 0 34 [(0, .ref (ad 43)), (1, .int v1), (2, .int v2), (3, .int v3), (4, .int v4), (5, .int v5), (6, .int v6)] [] h := by
  intro n
  induction n with
  | zero =>
    intro v1 v2 v3 v4 v5 v6 σ h hr hf
    rw [lX12_matchEdge_34] at hf
    cases hf
  | succ n ih =>
    intro v1 v2 v3 v4 v5 v6 σ h hr hf
    rw [lX12_matchEdge_34] at hf
    refine rw_iload dX12_matchEdge_34 6 rfl ?_
    refine rw_if_lt (tgt := 243) dX12_matchEdge_36 (by decide) (fun c9 => ?_) (fun c9 => ?_)
    · rw [if_pos c9] at hf
      refine rw_aload_n dX12_matchEdge_243 0 rfl rfl ?_
      refine sg_43_22 hr dX12_matchEdge_244 fl1484 ?_
      refine rw_iload_n dX12_matchEdge_247 1 rfl rfl ?_
      refine rw_aload_n dX12_matchEdge_248 0 rfl rfl ?_
      refine sg_43_28 hr dX12_matchEdge_249 fl1490 ?_
      refine rw_iconst (v := 0) dX12_matchEdge_252 (by decide) ?_
      refine rw_iconst (v := 0) dX12_matchEdge_253 (by decide) ?_
      obtain ⟨q10, hq10, hf⟩ := bnd hf
      refine kS_I (ad := ad) (As := [.int 0, .int 0]) (st := [.ref (ad 62), .int v1, .ref (ad 58)]) dX12_matchEdge_254 calX12_at wm1705 wm1706 rfl rfl (Nat.le_of_ble_eq_true rfl) ⟨⟨by decide, by decide⟩, by decide, by decide⟩ (cmX12_at hr hq10) (fun h hr => ?_)
      obtain ⟨hi11, hf⟩ := grd hf
      refine sl_62 hr dX12_matchEdge_257 (inB_in hi11) ?_
      obtain ⟨hi12, hf⟩ := grd hf
      refine ss_58 hr dX12_matchEdge_258 (inB_in hi12) (fun h hr => ?_)
      refine nmS hf hr (fun σ13 hr hf => ?_)
      refine rw_iconst (v := 0) dX12_matchEdge_259 (by decide) ?_
      refine rw_istore (lv2 := [(6, .int 0), (0, .ref (ad 43)), (1, .int v1), (2, .int v2), (3, .int v3), (4, .int v4), (5, .int v5)]) dX12_matchEdge_260 (by decide) rfl ?_
      refine rw_iconst (v := 0) dX12_matchEdge_262 (by decide) ?_
      refine rw_istore (lv2 := [(7, .int 0), (6, .int 0), (0, .ref (ad 43)), (1, .int v1), (2, .int v2), (3, .int v3), (4, .int v4), (5, .int v5)]) dX12_matchEdge_263 (by decide) rfl ?_
      refine rw_sub [2, 3, 4, 5, 6, 7, 1, 0] rfl ?_
      exact t_lX12_matchEdge_265 (ad := ad) (G := G)  1000 v1 v2 v3 v4 v5 0 0 σ13 _ hr hf
    · rw [if_neg c9] at hf
      refine rw_iload dX12_matchEdge_39 5 rfl ?_
      refine rw_istore (lv2 := [(7, .int v5), (0, .ref (ad 43)), (1, .int v1), (2, .int v2), (3, .int v3), (4, .int v4), (5, .int v5), (6, .int v6)]) dX12_matchEdge_41 (by decide) rfl ?_
      refine rw_sub [1, 2, 3, 4, 5, 6, 7, 0] rfl ?_
      exact t_lX12_matchEdge_43 (ad := ad) (G := G) (lX12_matchEdge_34 n) ih 1000 v1 v2 v3 v4 v5 v6 v5 σ _ hr hf
def fX12_matchEdge (a0 : Int32) (σ : rS) : Option (Unit × rS) := if inB a0 120 then vI (σ.2.2.1 53 a0.toNatClampNeg) fun x2 => if inB a0 120 then vI (σ.2.2.1 54 a0.toNatClampNeg) fun x4 => if inB x2 16 then vI (σ.2.2.1 47 x2.toNatClampNeg) fun x6 => if inB x4 16 then vI (σ.2.2.1 47 x4.toNatClampNeg) fun x8 => lX12_matchEdge_34 1000 a0 x2 x4 x6 x8 x6 σ else none else none else none else none
set_option maxHeartbeats 4000000 in
theorem cmX12_matchEdge {G : rG} {ad : Nat → Nat} {a0 : Int32} {σ : rS} {h : rH} {o : (Unit × rS)} (hr : Rep G ad σ h) (hf : fX12_matchEdge a0 σ = some o) : rMT G mX12_matchEdge (rm 1 0 0) [.ref (ad 43), .int a0] h (qV G ad o) xN := by
  unfold fX12_matchEdge at hf
  refine rw_met (by decide +kernel) rfl (Nat.le_of_ble_eq_true rfl) ?_
  show RW G _ _ _ _ 0 0 0 [(0, .ref (ad 43)), (1, .int a0)] [] h
  refine rw_aload_n dX12_matchEdge_0 0 rfl rfl ?_
  refine sg_43_17 hr dX12_matchEdge_1 fl1479 ?_
  refine rw_iload_n dX12_matchEdge_4 1 rfl rfl ?_
  obtain ⟨hi1, hf⟩ := grd hf
  refine sl_53 hr dX12_matchEdge_5 (inB_in hi1) ?_
  refine nmI hf (fun x2 hf => ?_)
  refine rw_istore_n (lv2 := [(2, .int x2), (0, .ref (ad 43)), (1, .int a0)]) dX12_matchEdge_6 rfl (by decide) rfl ?_
  refine rw_aload_n dX12_matchEdge_7 1 rfl rfl ?_
  refine sg_43_18 hr dX12_matchEdge_8 fl1480 ?_
  refine rw_iload_n dX12_matchEdge_11 2 rfl rfl ?_
  obtain ⟨hi3, hf⟩ := grd hf
  refine sl_54 hr dX12_matchEdge_12 (inB_in hi3) ?_
  refine nmI hf (fun x4 hf => ?_)
  refine rw_istore_n (lv2 := [(3, .int x4), (2, .int x2), (0, .ref (ad 43)), (1, .int a0)]) dX12_matchEdge_13 rfl (by decide) rfl ?_
  refine rw_aload_n dX12_matchEdge_14 2 rfl rfl ?_
  refine sg_43_6 hr dX12_matchEdge_15 fl1468 ?_
  refine rw_iload_n dX12_matchEdge_18 1 rfl rfl ?_
  obtain ⟨hi5, hf⟩ := grd hf
  refine sl_47 hr dX12_matchEdge_19 (inB_in hi5) ?_
  refine nmI hf (fun x6 hf => ?_)
  refine rw_istore (lv2 := [(4, .int x6), (3, .int x4), (2, .int x2), (0, .ref (ad 43)), (1, .int a0)]) dX12_matchEdge_20 (by decide) rfl ?_
  refine rw_aload_n dX12_matchEdge_22 3 rfl rfl ?_
  refine sg_43_6 hr dX12_matchEdge_23 fl1468 ?_
  refine rw_iload_n dX12_matchEdge_26 1 rfl rfl ?_
  obtain ⟨hi7, hf⟩ := grd hf
  refine sl_47 hr dX12_matchEdge_27 (inB_in hi7) ?_
  refine nmI hf (fun x8 hf => ?_)
  refine rw_istore (lv2 := [(5, .int x8), (4, .int x6), (3, .int x4), (2, .int x2), (0, .ref (ad 43)), (1, .int a0)]) dX12_matchEdge_28 (by decide) rfl ?_
  refine rw_iload dX12_matchEdge_30 1 rfl ?_
  refine rw_istore (lv2 := [(6, .int x6), (5, .int x8), (4, .int x6), (3, .int x4), (2, .int x2), (0, .ref (ad 43)), (1, .int a0)]) dX12_matchEdge_32 (by decide) rfl ?_
  refine rw_sub [5, 6, 4, 3, 2, 1, 0] rfl ?_
  exact t_lX12_matchEdge_34 (ad := ad) (G := G)  1000 a0 x2 x4 x6 x8 x6 σ _ hr hf
def jX12_spread_153 (k2 : Int32 → Int32 → rS → Option (Unit × rS)) (k10 : Int32 → Int32 → Int32 → rS → Option (Unit × rS)) (v1 : Int32) (v2 : Int32) (v3 : Int32) (σ : rS) : Option (Unit × rS) := vI (v3 + 1) fun x17 => k10 v1 v2 x17 σ
set_option maxHeartbeats 4000000 in
theorem t_jX12_spread_153 {G : rG} {ad : Nat → Nat} {o : (Unit × rS)} (k2 : Int32 → Int32 → rS → Option (Unit × rS)) (k10 : Int32 → Int32 → Int32 → rS → Option (Unit × rS)) (hk2 : ∀ (v1 : Int32) (v2 : Int32) (σ : rS) (h : rH), Rep G ad σ h → k2 v1 v2 σ = some o → RW G mX12_spread (rm 0 0 0) (qV G ad o) xN 0 0 2 [(0, .ref (ad 43)), (1, .int v1), (2, .int v2)] [] h) (hk10 : ∀ (v1 : Int32) (v2 : Int32) (v3 : Int32) (σ : rS) (h : rH), Rep G ad σ h → k10 v1 v2 v3 σ = some o → RW G mX12_spread (rm 0 0 0) (qV G ad o) xN 0 0 10 [(0, .ref (ad 43)), (1, .int v1), (2, .int v2), (3, .int v3)] [] h) (v1 : Int32) (v2 : Int32) (v3 : Int32) (σ : rS) (h : rH) (hr : Rep G ad σ h) (hf : jX12_spread_153 k2 k10 v1 v2 v3 σ = some o) : RW G mX12_spread (rm 0 0 0) (qV G ad o) xN 0 0 153 [(0, .ref (ad 43)), (1, .int v1), (2, .int v2), (3, .int v3)] [] h := by
  unfold jX12_spread_153 at hf
  refine rw_iinc (v := v3 + 1) (lv2 := [(3, .int (v3 + 1)), (0, .ref (ad 43)), (1, .int v1), (2, .int v2)]) dX12_spread_153 3 rfl rfl (by decide) rfl ?_
  refine nmL hf (fun x17 hf => ?_)
  refine rw_goto (tgt := 10) dX12_spread_156 (by decide) ?_
  refine rw_sub [1, 2, 3, 0] rfl ?_
  exact hk10 v1 v2 x17 σ _ hr hf
def jX12_spread_147 (k2 : Int32 → Int32 → rS → Option (Unit × rS)) (k10 : Int32 → Int32 → Int32 → rS → Option (Unit × rS)) (k21 : Int32 → Int32 → Int32 → Int32 → rS → Option (Unit × rS)) (v1 : Int32) (v2 : Int32) (v3 : Int32) (v4 : Int32) (σ : rS) : Option (Unit × rS) := vI (v4 + 1) fun x18 => k21 v1 v2 v3 x18 σ
set_option maxHeartbeats 4000000 in
theorem t_jX12_spread_147 {G : rG} {ad : Nat → Nat} {o : (Unit × rS)} (k2 : Int32 → Int32 → rS → Option (Unit × rS)) (k10 : Int32 → Int32 → Int32 → rS → Option (Unit × rS)) (k21 : Int32 → Int32 → Int32 → Int32 → rS → Option (Unit × rS)) (hk2 : ∀ (v1 : Int32) (v2 : Int32) (σ : rS) (h : rH), Rep G ad σ h → k2 v1 v2 σ = some o → RW G mX12_spread (rm 0 0 0) (qV G ad o) xN 0 0 2 [(0, .ref (ad 43)), (1, .int v1), (2, .int v2)] [] h) (hk10 : ∀ (v1 : Int32) (v2 : Int32) (v3 : Int32) (σ : rS) (h : rH), Rep G ad σ h → k10 v1 v2 v3 σ = some o → RW G mX12_spread (rm 0 0 0) (qV G ad o) xN 0 0 10 [(0, .ref (ad 43)), (1, .int v1), (2, .int v2), (3, .int v3)] [] h) (hk21 : ∀ (v1 : Int32) (v2 : Int32) (v3 : Int32) (v4 : Int32) (σ : rS) (h : rH), Rep G ad σ h → k21 v1 v2 v3 v4 σ = some o → RW G mX12_spread (rm 0 0 0) (qV G ad o) xN 0 0 21 [(0, .ref (ad 43)), (1, .int v1), (2, .int v2), (3, .int v3), (4, .int v4)] [] h) (v1 : Int32) (v2 : Int32) (v3 : Int32) (v4 : Int32) (σ : rS) (h : rH) (hr : Rep G ad σ h) (hf : jX12_spread_147 k2 k10 k21 v1 v2 v3 v4 σ = some o) : RW G mX12_spread (rm 0 0 0) (qV G ad o) xN 0 0 147 [(0, .ref (ad 43)), (1, .int v1), (2, .int v2), (3, .int v3), (4, .int v4)] [] h := by
  unfold jX12_spread_147 at hf
  refine rw_iinc (v := v4 + 1) (lv2 := [(4, .int (v4 + 1)), (0, .ref (ad 43)), (1, .int v1), (2, .int v2), (3, .int v3)]) dX12_spread_147 4 rfl rfl (by decide) rfl ?_
  refine nmL hf (fun x18 hf => ?_)
  refine rw_goto (tgt := 21) dX12_spread_150 (by decide) ?_
  refine rw_sub [1, 2, 3, 4, 0] rfl ?_
  exact hk21 v1 v2 v3 x18 σ _ hr hf
def jX12_spread_126 (k2 : Int32 → Int32 → rS → Option (Unit × rS)) (k10 : Int32 → Int32 → Int32 → rS → Option (Unit × rS)) (k21 : Int32 → Int32 → Int32 → Int32 → rS → Option (Unit × rS)) (v1 : Int32) (v2 : Int32) (v3 : Int32) (v4 : Int32) (v6 : Int32) (v7 : Int32) (s0 : Int32) (s1 : Int32) (σ : rS) : Option (Unit × rS) := if s1 = s0 then jX12_spread_147 k2 k10 k21 v1 v2 v3 v4 σ else if inB v6 192 then vS (uA σ 60 v6.toNatClampNeg v1) fun σ23 => if inB v7 192 then vS (uA σ23 60 v7.toNatClampNeg v1) fun σ25 => jX12_spread_147 k2 k10 k21 v1 1 v3 v4 σ25 else none else none
set_option maxHeartbeats 4000000 in
theorem t_jX12_spread_126 {G : rG} {ad : Nat → Nat} {o : (Unit × rS)} (k2 : Int32 → Int32 → rS → Option (Unit × rS)) (k10 : Int32 → Int32 → Int32 → rS → Option (Unit × rS)) (k21 : Int32 → Int32 → Int32 → Int32 → rS → Option (Unit × rS)) (hk2 : ∀ (v1 : Int32) (v2 : Int32) (σ : rS) (h : rH), Rep G ad σ h → k2 v1 v2 σ = some o → RW G mX12_spread (rm 0 0 0) (qV G ad o) xN 0 0 2 [(0, .ref (ad 43)), (1, .int v1), (2, .int v2)] [] h) (hk10 : ∀ (v1 : Int32) (v2 : Int32) (v3 : Int32) (σ : rS) (h : rH), Rep G ad σ h → k10 v1 v2 v3 σ = some o → RW G mX12_spread (rm 0 0 0) (qV G ad o) xN 0 0 10 [(0, .ref (ad 43)), (1, .int v1), (2, .int v2), (3, .int v3)] [] h) (hk21 : ∀ (v1 : Int32) (v2 : Int32) (v3 : Int32) (v4 : Int32) (σ : rS) (h : rH), Rep G ad σ h → k21 v1 v2 v3 v4 σ = some o → RW G mX12_spread (rm 0 0 0) (qV G ad o) xN 0 0 21 [(0, .ref (ad 43)), (1, .int v1), (2, .int v2), (3, .int v3), (4, .int v4)] [] h) (v1 : Int32) (v2 : Int32) (v3 : Int32) (v4 : Int32) (v6 : Int32) (v7 : Int32) (s0 : Int32) (s1 : Int32) (σ : rS) (h : rH) (hr : Rep G ad σ h) (hf : jX12_spread_126 k2 k10 k21 v1 v2 v3 v4 v6 v7 s0 s1 σ = some o) : RW G mX12_spread (rm 0 0 0) (qV G ad o) xN 0 0 126 [(0, .ref (ad 43)), (1, .int v1), (2, .int v2), (3, .int v3), (4, .int v4), (6, .int v6), (7, .int v7)] [.int s0, .int s1] h := by
  unfold jX12_spread_126 at hf
  refine rw_icmp_eq (tgt := 147) dX12_spread_126 (by decide) (fun c21 => ?_) (fun c21 => ?_)
  · rw [if_pos c21] at hf
    refine rw_sub [0, 1, 2, 3, 4] rfl ?_
    exact t_jX12_spread_147 (ad := ad) (G := G) k2 k10 k21 hk2 hk10 hk21 v1 v2 v3 v4 σ _ hr hf
  · rw [if_neg c21] at hf
    refine rw_aload_n dX12_spread_129 0 rfl rfl ?_
    refine sg_43_26 hr dX12_spread_130 fl1488 ?_
    refine rw_iload dX12_spread_133 5 rfl ?_
    refine rw_iload_n dX12_spread_135 1 rfl rfl ?_
    obtain ⟨hi22, hf⟩ := grd hf
    refine ss_60 hr dX12_spread_136 (inB_in hi22) (fun h hr => ?_)
    refine nmS hf hr (fun σ23 hr hf => ?_)
    refine rw_aload_n dX12_spread_137 0 rfl rfl ?_
    refine sg_43_26 hr dX12_spread_138 fl1488 ?_
    refine rw_iload dX12_spread_141 6 rfl ?_
    refine rw_iload_n dX12_spread_143 1 rfl rfl ?_
    obtain ⟨hi24, hf⟩ := grd hf
    refine ss_60 hr dX12_spread_144 (inB_in hi24) (fun h hr => ?_)
    refine nmS hf hr (fun σ25 hr hf => ?_)
    refine rw_iconst (v := 1) dX12_spread_145 (by decide) ?_
    refine rw_istore_n (lv2 := [(2, .int 1), (0, .ref (ad 43)), (1, .int v1), (3, .int v3), (4, .int v4), (6, .int v6), (7, .int v7)]) dX12_spread_146 rfl (by decide) rfl ?_
    refine rw_sub [1, 2, 0, 3, 4] rfl ?_
    exact t_jX12_spread_147 (ad := ad) (G := G) k2 k10 k21 hk2 hk10 hk21 v1 1 v3 v4 σ25 _ hr hf
def jX12_spread_110 (k2 : Int32 → Int32 → rS → Option (Unit × rS)) (k10 : Int32 → Int32 → Int32 → rS → Option (Unit × rS)) (k21 : Int32 → Int32 → Int32 → Int32 → rS → Option (Unit × rS)) (v1 : Int32) (v2 : Int32) (v3 : Int32) (v4 : Int32) (v6 : Int32) (v7 : Int32) (s0 : Int32) (σ : rS) : Option (Unit × rS) := if inB v7 192 then (if (σ.2.2.1 60 v7.toNatClampNeg) = v1 then jX12_spread_126 k2 k10 k21 v1 v2 v3 v4 v6 v7 1 s0 σ else jX12_spread_126 k2 k10 k21 v1 v2 v3 v4 v6 v7 0 s0 σ) else none
set_option maxHeartbeats 4000000 in
theorem t_jX12_spread_110 {G : rG} {ad : Nat → Nat} {o : (Unit × rS)} (k2 : Int32 → Int32 → rS → Option (Unit × rS)) (k10 : Int32 → Int32 → Int32 → rS → Option (Unit × rS)) (k21 : Int32 → Int32 → Int32 → Int32 → rS → Option (Unit × rS)) (hk2 : ∀ (v1 : Int32) (v2 : Int32) (σ : rS) (h : rH), Rep G ad σ h → k2 v1 v2 σ = some o → RW G mX12_spread (rm 0 0 0) (qV G ad o) xN 0 0 2 [(0, .ref (ad 43)), (1, .int v1), (2, .int v2)] [] h) (hk10 : ∀ (v1 : Int32) (v2 : Int32) (v3 : Int32) (σ : rS) (h : rH), Rep G ad σ h → k10 v1 v2 v3 σ = some o → RW G mX12_spread (rm 0 0 0) (qV G ad o) xN 0 0 10 [(0, .ref (ad 43)), (1, .int v1), (2, .int v2), (3, .int v3)] [] h) (hk21 : ∀ (v1 : Int32) (v2 : Int32) (v3 : Int32) (v4 : Int32) (σ : rS) (h : rH), Rep G ad σ h → k21 v1 v2 v3 v4 σ = some o → RW G mX12_spread (rm 0 0 0) (qV G ad o) xN 0 0 21 [(0, .ref (ad 43)), (1, .int v1), (2, .int v2), (3, .int v3), (4, .int v4)] [] h) (v1 : Int32) (v2 : Int32) (v3 : Int32) (v4 : Int32) (v6 : Int32) (v7 : Int32) (s0 : Int32) (σ : rS) (h : rH) (hr : Rep G ad σ h) (hf : jX12_spread_110 k2 k10 k21 v1 v2 v3 v4 v6 v7 s0 σ = some o) : RW G mX12_spread (rm 0 0 0) (qV G ad o) xN 0 0 110 [(0, .ref (ad 43)), (1, .int v1), (2, .int v2), (3, .int v3), (4, .int v4), (6, .int v6), (7, .int v7)] [.int s0] h := by
  unfold jX12_spread_110 at hf
  refine rw_aload_n dX12_spread_110 0 rfl rfl ?_
  refine sg_43_26 hr dX12_spread_111 fl1488 ?_
  refine rw_iload dX12_spread_114 6 rfl ?_
  obtain ⟨hi19, hf⟩ := grd hf
  refine sl_60 hr dX12_spread_116 (inB_in hi19) ?_
  refine rw_iload_n dX12_spread_117 1 rfl rfl ?_
  refine rw_icmp_ne (tgt := 125) dX12_spread_118 (by decide) (fun c20 => ?_) (fun c20 => ?_)
  · rw [if_neg c20] at hf
    refine rw_iconst (v := 0) dX12_spread_125 (by decide) ?_
    exact t_jX12_spread_126 (ad := ad) (G := G) k2 k10 k21 hk2 hk10 hk21 v1 v2 v3 v4 v6 v7 0 s0 σ _ hr hf
  · rw [if_pos c20] at hf
    refine rw_iconst (v := 1) dX12_spread_121 (by decide) ?_
    refine rw_goto (tgt := 126) dX12_spread_122 (by decide) ?_
    exact t_jX12_spread_126 (ad := ad) (G := G) k2 k10 k21 hk2 hk10 hk21 v1 v2 v3 v4 v6 v7 1 s0 σ _ hr hf
def lX12_spread_21 (k2 : Int32 → Int32 → rS → Option (Unit × rS)) (k10 : Int32 → Int32 → Int32 → rS → Option (Unit × rS)) : Nat → Int32 → Int32 → Int32 → Int32 → rS → Option (Unit × rS)
  | 0, _, _, _, _, _ => none
  | n + 1, v1, v2, v3, v4, σ => if inB v3 120 then if inB (σ.2.2.1 53 v3.toNatClampNeg) 16 then (if (σ.2.2.1 47 (σ.2.2.1 53 v3.toNatClampNeg).toNatClampNeg) ≤ v4 then jX12_spread_153 k2 k10 v1 v2 v3 σ else if inB v3 120 then (if (σ.2.2.1 55 v3.toNatClampNeg) = 0 then if inB ((12 * v3) + v4) 1440 then vI (σ.2.2.1 57 ((12 * v3) + v4).toNatClampNeg) fun x9 => if inB v3 120 then vI ((12 * (σ.2.2.1 53 v3.toNatClampNeg)) + v4) fun x11 => if inB v3 120 then vI ((12 * (σ.2.2.1 54 v3.toNatClampNeg)) + x9) fun x13 => (if x9 = ((-1)) then jX12_spread_147 k2 k10 (lX12_spread_21 k2 k10 n) v1 v2 v3 v4 σ else if inB x11 192 then (if (σ.2.2.1 60 x11.toNatClampNeg) = v1 then jX12_spread_110 k2 k10 (lX12_spread_21 k2 k10 n) v1 v2 v3 v4 x11 x13 1 σ else jX12_spread_110 k2 k10 (lX12_spread_21 k2 k10 n) v1 v2 v3 v4 x11 x13 0 σ) else none) else none else none else none else jX12_spread_153 k2 k10 v1 v2 v3 σ) else none) else none else none
set_option maxHeartbeats 4000000 in
theorem t_lX12_spread_21 {G : rG} {ad : Nat → Nat} {o : (Unit × rS)} (k2 : Int32 → Int32 → rS → Option (Unit × rS)) (k10 : Int32 → Int32 → Int32 → rS → Option (Unit × rS)) (hk2 : ∀ (v1 : Int32) (v2 : Int32) (σ : rS) (h : rH), Rep G ad σ h → k2 v1 v2 σ = some o → RW G mX12_spread (rm 0 0 0) (qV G ad o) xN 0 0 2 [(0, .ref (ad 43)), (1, .int v1), (2, .int v2)] [] h) (hk10 : ∀ (v1 : Int32) (v2 : Int32) (v3 : Int32) (σ : rS) (h : rH), Rep G ad σ h → k10 v1 v2 v3 σ = some o → RW G mX12_spread (rm 0 0 0) (qV G ad o) xN 0 0 10 [(0, .ref (ad 43)), (1, .int v1), (2, .int v2), (3, .int v3)] [] h) : ∀ (n : Nat) (v1 : Int32) (v2 : Int32) (v3 : Int32) (v4 : Int32) (σ : rS) (h : rH), Rep G ad σ h → lX12_spread_21 k2 k10 n v1 v2 v3 v4 σ = some o → RW G mX12_spread (rm 0 0 0) (qV G ad o) xN 0 0 21 [(0, .ref (ad 43)), (1, .int v1), (2, .int v2), (3, .int v3), (4, .int v4)] [] h := by
  intro n
  induction n with
  | zero =>
    intro v1 v2 v3 v4 σ h hr hf
    rw [lX12_spread_21] at hf
    cases hf
  | succ n ih =>
    intro v1 v2 v3 v4 σ h hr hf
    rw [lX12_spread_21] at hf
    refine rw_iload dX12_spread_21 4 rfl ?_
    refine rw_aload_n dX12_spread_23 0 rfl rfl ?_
    refine sg_43_6 hr dX12_spread_24 fl1468 ?_
    refine rw_aload_n dX12_spread_27 0 rfl rfl ?_
    refine sg_43_17 hr dX12_spread_28 fl1479 ?_
    refine rw_iload_n dX12_spread_31 3 rfl rfl ?_
    obtain ⟨hi3, hf⟩ := grd hf
    refine sl_53 hr dX12_spread_32 (inB_in hi3) ?_
    obtain ⟨hi4, hf⟩ := grd hf
    refine sl_47 hr dX12_spread_33 (inB_in hi4) ?_
    refine rw_icmp_ge (tgt := 153) dX12_spread_34 (by decide) (fun c5 => ?_) (fun c5 => ?_)
    · rw [if_pos c5] at hf
      refine rw_sub [0, 1, 2, 3] rfl ?_
      exact t_jX12_spread_153 (ad := ad) (G := G) k2 k10 hk2 hk10 v1 v2 v3 σ _ hr hf
    · rw [if_neg c5] at hf
      refine rw_aload_n dX12_spread_37 0 rfl rfl ?_
      refine sg_43_19 hr dX12_spread_38 fl1481 ?_
      refine rw_iload_n dX12_spread_41 3 rfl rfl ?_
      obtain ⟨hi6, hf⟩ := grd hf
      refine sl_55 hr dX12_spread_42 (inB_in hi6) ?_
      refine rw_if_ne (tgt := 153) dX12_spread_43 (by decide) (fun c7 => ?_) (fun c7 => ?_)
      · rw [if_neg c7] at hf
        refine rw_sub [0, 1, 2, 3] rfl ?_
        exact t_jX12_spread_153 (ad := ad) (G := G) k2 k10 hk2 hk10 v1 v2 v3 σ _ hr hf
      · rw [if_pos c7] at hf
        refine rw_aload_n dX12_spread_46 0 rfl rfl ?_
        refine sg_43_21 hr dX12_spread_47 fl1483 ?_
        refine rw_bipush (v := 12) dX12_spread_50 (by decide) ?_
        refine rw_iload_n dX12_spread_52 3 rfl rfl ?_
        refine rw_imul dX12_spread_53 ?_
        refine rw_iload dX12_spread_54 4 rfl ?_
        refine rw_iadd dX12_spread_56 ?_
        obtain ⟨hi8, hf⟩ := grd hf
        refine sl_57 hr dX12_spread_57 (inB_in hi8) ?_
        refine nmI hf (fun x9 hf => ?_)
        refine rw_istore (lv2 := [(5, .int x9), (0, .ref (ad 43)), (1, .int v1), (2, .int v2), (3, .int v3), (4, .int v4)]) dX12_spread_58 (by decide) rfl ?_
        refine rw_bipush (v := 12) dX12_spread_60 (by decide) ?_
        refine rw_aload_n dX12_spread_62 1 rfl rfl ?_
        refine sg_43_17 hr dX12_spread_63 fl1479 ?_
        refine rw_iload_n dX12_spread_66 4 rfl rfl ?_
        obtain ⟨hi10, hf⟩ := grd hf
        refine sl_53 hr dX12_spread_67 (inB_in hi10) ?_
        refine rw_imul dX12_spread_68 ?_
        refine rw_iload dX12_spread_69 5 rfl ?_
        refine rw_iadd dX12_spread_71 ?_
        refine nmI hf (fun x11 hf => ?_)
        refine rw_istore (lv2 := [(6, .int x11), (5, .int x9), (0, .ref (ad 43)), (1, .int v1), (2, .int v2), (3, .int v3), (4, .int v4)]) dX12_spread_72 (by decide) rfl ?_
        refine rw_bipush (v := 12) dX12_spread_74 (by decide) ?_
        refine rw_aload_n dX12_spread_76 2 rfl rfl ?_
        refine sg_43_18 hr dX12_spread_77 fl1480 ?_
        refine rw_iload_n dX12_spread_80 5 rfl rfl ?_
        obtain ⟨hi12, hf⟩ := grd hf
        refine sl_54 hr dX12_spread_81 (inB_in hi12) ?_
        refine rw_imul dX12_spread_82 ?_
        refine rw_iload dX12_spread_83 1 rfl ?_
        refine rw_iadd dX12_spread_85 ?_
        refine nmI hf (fun x13 hf => ?_)
        refine rw_istore (lv2 := [(7, .int x13), (6, .int x11), (5, .int x9), (0, .ref (ad 43)), (1, .int v1), (2, .int v2), (3, .int v3), (4, .int v4)]) dX12_spread_86 (by decide) rfl ?_
        refine rw_iload dX12_spread_88 2 rfl ?_
        refine rw_iconst (v := (-1)) dX12_spread_90 (by decide) ?_
        refine rw_icmp_eq (tgt := 147) dX12_spread_91 (by decide) (fun c14 => ?_) (fun c14 => ?_)
        · rw [if_pos c14] at hf
          refine rw_sub [3, 4, 5, 6, 7] rfl ?_
          exact t_jX12_spread_147 (ad := ad) (G := G) k2 k10 (lX12_spread_21 k2 k10 n) hk2 hk10 ih v1 v2 v3 v4 σ _ hr hf
        · rw [if_neg c14] at hf
          refine rw_aload_n dX12_spread_94 3 rfl rfl ?_
          refine sg_43_26 hr dX12_spread_95 fl1488 ?_
          refine rw_iload dX12_spread_98 1 rfl ?_
          obtain ⟨hi15, hf⟩ := grd hf
          refine sl_60 hr dX12_spread_100 (inB_in hi15) ?_
          refine rw_iload_n dX12_spread_101 4 rfl rfl ?_
          refine rw_icmp_ne (tgt := 109) dX12_spread_102 (by decide) (fun c16 => ?_) (fun c16 => ?_)
          · rw [if_neg c16] at hf
            refine rw_iconst (v := 0) dX12_spread_109 (by decide) ?_
            refine rw_sub [3, 4, 5, 6, 7, 1, 0] rfl ?_
            exact t_jX12_spread_110 (ad := ad) (G := G) k2 k10 (lX12_spread_21 k2 k10 n) hk2 hk10 ih v1 v2 v3 v4 x11 x13 0 σ _ hr hf
          · rw [if_pos c16] at hf
            refine rw_iconst (v := 1) dX12_spread_105 (by decide) ?_
            refine rw_goto (tgt := 110) dX12_spread_106 (by decide) ?_
            refine rw_sub [3, 4, 5, 6, 7, 1, 0] rfl ?_
            exact t_jX12_spread_110 (ad := ad) (G := G) k2 k10 (lX12_spread_21 k2 k10 n) hk2 hk10 ih v1 v2 v3 v4 x11 x13 1 σ _ hr hf
def lX12_spread_10 (k2 : Int32 → Int32 → rS → Option (Unit × rS)) : Nat → Int32 → Int32 → Int32 → rS → Option (Unit × rS)
  | 0, _, _, _, _ => none
  | n + 1, v1, v2, v3, σ => if (σ.1 43 16) ≤ v3 then k2 v1 v2 σ else lX12_spread_21 k2 (lX12_spread_10 k2 n) 1000 v1 v2 v3 0 σ
set_option maxHeartbeats 4000000 in
theorem t_lX12_spread_10 {G : rG} {ad : Nat → Nat} {o : (Unit × rS)} (k2 : Int32 → Int32 → rS → Option (Unit × rS)) (hk2 : ∀ (v1 : Int32) (v2 : Int32) (σ : rS) (h : rH), Rep G ad σ h → k2 v1 v2 σ = some o → RW G mX12_spread (rm 0 0 0) (qV G ad o) xN 0 0 2 [(0, .ref (ad 43)), (1, .int v1), (2, .int v2)] [] h) : ∀ (n : Nat) (v1 : Int32) (v2 : Int32) (v3 : Int32) (σ : rS) (h : rH), Rep G ad σ h → lX12_spread_10 k2 n v1 v2 v3 σ = some o → RW G mX12_spread (rm 0 0 0) (qV G ad o) xN 0 0 10 [(0, .ref (ad 43)), (1, .int v1), (2, .int v2), (3, .int v3)] [] h := by
  intro n
  induction n with
  | zero =>
    intro v1 v2 v3 σ h hr hf
    rw [lX12_spread_10] at hf
    cases hf
  | succ n ih =>
    intro v1 v2 v3 σ h hr hf
    rw [lX12_spread_10] at hf
    refine rw_iload_n dX12_spread_10 3 rfl rfl ?_
    refine rw_aload_n dX12_spread_11 0 rfl rfl ?_
    refine sg_43_16 hr dX12_spread_12 fl1478 ?_
    refine rw_icmp_ge (tgt := 159) dX12_spread_15 (by decide) (fun c2 => ?_) (fun c2 => ?_)
    · rw [if_pos c2] at hf
      refine rw_goto (tgt := 2) dX12_spread_159 (by decide) ?_
      refine rw_sub [0, 1, 2] rfl ?_
      exact hk2 v1 v2 σ _ hr hf
    · rw [if_neg c2] at hf
      refine rw_iconst (v := 0) dX12_spread_18 (by decide) ?_
      refine rw_istore (lv2 := [(4, .int 0), (0, .ref (ad 43)), (1, .int v1), (2, .int v2), (3, .int v3)]) dX12_spread_19 (by decide) rfl ?_
      refine rw_sub [1, 2, 3, 4, 0] rfl ?_
      exact t_lX12_spread_21 (ad := ad) (G := G) k2 (lX12_spread_10 k2 n) hk2 ih 1000 v1 v2 v3 0 σ _ hr hf
def lX12_spread_2  : Nat → Int32 → Int32 → rS → Option (Unit × rS)
  | 0, _, _, _ => none
  | n + 1, v1, v2, σ => if v2 = 0 then some ((), σ) else lX12_spread_10 (lX12_spread_2 n) 1000 v1 0 0 σ
set_option maxHeartbeats 4000000 in
theorem t_lX12_spread_2 {G : rG} {ad : Nat → Nat} {o : (Unit × rS)}   : ∀ (n : Nat) (v1 : Int32) (v2 : Int32) (σ : rS) (h : rH), Rep G ad σ h → lX12_spread_2  n v1 v2 σ = some o → RW G mX12_spread (rm 0 0 0) (qV G ad o) xN 0 0 2 [(0, .ref (ad 43)), (1, .int v1), (2, .int v2)] [] h := by
  intro n
  induction n with
  | zero =>
    intro v1 v2 σ h hr hf
    rw [lX12_spread_2] at hf
    cases hf
  | succ n ih =>
    intro v1 v2 σ h hr hf
    rw [lX12_spread_2] at hf
    refine rw_iload_n dX12_spread_2 2 rfl rfl ?_
    refine rw_if_eq (tgt := 162) dX12_spread_3 (by decide) (fun c1 => ?_) (fun c1 => ?_)
    · rw [if_pos c1] at hf
      replace hf := Option.some.inj hf
      subst hf
      exact rw_return dX12_spread_162 rfl ⟨rfl, hr⟩ (by decide) (by decide)
    · rw [if_neg c1] at hf
      refine rw_iconst (v := 0) dX12_spread_6 (by decide) ?_
      refine rw_istore_n (lv2 := [(2, .int 0), (0, .ref (ad 43)), (1, .int v1)]) dX12_spread_7 rfl (by decide) rfl ?_
      refine rw_iconst (v := 0) dX12_spread_8 (by decide) ?_
      refine rw_istore_n (lv2 := [(3, .int 0), (2, .int 0), (0, .ref (ad 43)), (1, .int v1)]) dX12_spread_9 rfl (by decide) rfl ?_
      refine rw_sub [2, 3, 1, 0] rfl ?_
      exact t_lX12_spread_10 (ad := ad) (G := G) (lX12_spread_2 n) ih 1000 v1 0 0 σ _ hr hf
def fX12_spread (a0 : Int32) (σ : rS) : Option (Unit × rS) := lX12_spread_2 1000 a0 1 σ
set_option maxHeartbeats 4000000 in
theorem cmX12_spread {G : rG} {ad : Nat → Nat} {a0 : Int32} {σ : rS} {h : rH} {o : (Unit × rS)} (hr : Rep G ad σ h) (hf : fX12_spread a0 σ = some o) : rMT G mX12_spread (rm 0 0 0) [.ref (ad 43), .int a0] h (qV G ad o) xN := by
  unfold fX12_spread at hf
  refine rw_met (by decide +kernel) rfl (Nat.le_of_ble_eq_true rfl) ?_
  show RW G _ _ _ _ 0 0 0 [(0, .ref (ad 43)), (1, .int a0)] [] h
  refine rw_iconst (v := 1) dX12_spread_0 (by decide) ?_
  refine rw_istore_n (lv2 := [(2, .int 1), (0, .ref (ad 43)), (1, .int a0)]) dX12_spread_1 rfl (by decide) rfl ?_
  refine rw_sub [1, 2, 0] rfl ?_
  exact t_lX12_spread_2 (ad := ad) (G := G)  1000 a0 1 σ _ hr hf
def jX12_findBeds_112 (k29 : Int32 → rS → Option (Unit × rS)) (k39 : Int32 → Int32 → rS → Option (Unit × rS)) (v1 : Int32) (v2 : Int32) (σ : rS) : Option (Unit × rS) := vI (v2 + 1) fun x18 => k39 v1 x18 σ
set_option maxHeartbeats 4000000 in
theorem t_jX12_findBeds_112 {G : rG} {ad : Nat → Nat} {o : (Unit × rS)} (k29 : Int32 → rS → Option (Unit × rS)) (k39 : Int32 → Int32 → rS → Option (Unit × rS)) (hk29 : ∀ (v1 : Int32) (σ : rS) (h : rH), Rep G ad σ h → k29 v1 σ = some o → RW G mX12_findBeds (rm 1 0 0) (qV G ad o) xN 0 0 29 [(0, .ref (ad 43)), (1, .int v1)] [] h) (hk39 : ∀ (v1 : Int32) (v2 : Int32) (σ : rS) (h : rH), Rep G ad σ h → k39 v1 v2 σ = some o → RW G mX12_findBeds (rm 1 0 0) (qV G ad o) xN 0 0 39 [(0, .ref (ad 43)), (1, .int v1), (2, .int v2)] [] h) (v1 : Int32) (v2 : Int32) (σ : rS) (h : rH) (hr : Rep G ad σ h) (hf : jX12_findBeds_112 k29 k39 v1 v2 σ = some o) : RW G mX12_findBeds (rm 1 0 0) (qV G ad o) xN 0 0 112 [(0, .ref (ad 43)), (1, .int v1), (2, .int v2)] [] h := by
  unfold jX12_findBeds_112 at hf
  refine rw_iinc (v := v2 + 1) (lv2 := [(2, .int (v2 + 1)), (0, .ref (ad 43)), (1, .int v1)]) dX12_findBeds_112 2 rfl rfl (by decide) rfl ?_
  refine nmL hf (fun x18 hf => ?_)
  refine rw_goto (tgt := 39) dX12_findBeds_115 (by decide) ?_
  refine rw_sub [1, 2, 0] rfl ?_
  exact hk39 v1 x18 σ _ hr hf
def lX12_findBeds_39 (k29 : Int32 → rS → Option (Unit × rS)) : Nat → Int32 → Int32 → rS → Option (Unit × rS)
  | 0, _, _, _ => none
  | n + 1, v1, v2, σ => if inB v1 16 then (if (σ.2.2.1 47 v1.toNatClampNeg) ≤ v2 then vI (v1 + 1) fun x9 => k29 x9 σ else if inB ((12 * v1) + v2) 192 then (if (σ.2.2.1 60 ((12 * v1) + v2).toNatClampNeg) = ((-1)) then if inB ((12 * v1) + v2) 192 then vS (uA σ 60 ((12 * v1) + v2).toNatClampNeg (σ.1 43 25)) fun σ13 => if inB (σ13.1 43 25) 192 then vS (uA σ13 61 (σ13.1 43 25).toNatClampNeg ((12 * v1) + v2)) fun σ15 => (fX12_spread (σ15.1 43 25) σ15).bind fun q16 => vS (uI q16.2 43 25 ((q16.2.1 43 25) + 1)) fun σ17 => jX12_findBeds_112 k29 (lX12_findBeds_39 k29 n) v1 v2 σ17 else none else none else jX12_findBeds_112 k29 (lX12_findBeds_39 k29 n) v1 v2 σ) else none) else none
set_option maxHeartbeats 4000000 in
theorem t_lX12_findBeds_39 {G : rG} {ad : Nat → Nat} {o : (Unit × rS)} (k29 : Int32 → rS → Option (Unit × rS)) (hk29 : ∀ (v1 : Int32) (σ : rS) (h : rH), Rep G ad σ h → k29 v1 σ = some o → RW G mX12_findBeds (rm 1 0 0) (qV G ad o) xN 0 0 29 [(0, .ref (ad 43)), (1, .int v1)] [] h) : ∀ (n : Nat) (v1 : Int32) (v2 : Int32) (σ : rS) (h : rH), Rep G ad σ h → lX12_findBeds_39 k29 n v1 v2 σ = some o → RW G mX12_findBeds (rm 1 0 0) (qV G ad o) xN 0 0 39 [(0, .ref (ad 43)), (1, .int v1), (2, .int v2)] [] h := by
  intro n
  induction n with
  | zero =>
    intro v1 v2 σ h hr hf
    rw [lX12_findBeds_39] at hf
    cases hf
  | succ n ih =>
    intro v1 v2 σ h hr hf
    rw [lX12_findBeds_39] at hf
    refine rw_iload_n dX12_findBeds_39 2 rfl rfl ?_
    refine rw_aload_n dX12_findBeds_40 0 rfl rfl ?_
    refine sg_43_6 hr dX12_findBeds_41 fl1468 ?_
    refine rw_iload_n dX12_findBeds_44 1 rfl rfl ?_
    obtain ⟨hi7, hf⟩ := grd hf
    refine sl_47 hr dX12_findBeds_45 (inB_in hi7) ?_
    refine rw_icmp_ge (tgt := 118) dX12_findBeds_46 (by decide) (fun c8 => ?_) (fun c8 => ?_)
    · rw [if_pos c8] at hf
      refine rw_iinc (v := v1 + 1) (lv2 := [(1, .int (v1 + 1)), (0, .ref (ad 43)), (2, .int v2)]) dX12_findBeds_118 1 rfl rfl (by decide) rfl ?_
      refine nmL hf (fun x9 hf => ?_)
      refine rw_goto (tgt := 29) dX12_findBeds_121 (by decide) ?_
      refine rw_sub [1, 0] rfl ?_
      exact hk29 x9 σ _ hr hf
    · rw [if_neg c8] at hf
      refine rw_aload_n dX12_findBeds_49 0 rfl rfl ?_
      refine sg_43_26 hr dX12_findBeds_50 fl1488 ?_
      refine rw_bipush (v := 12) dX12_findBeds_53 (by decide) ?_
      refine rw_iload_n dX12_findBeds_55 1 rfl rfl ?_
      refine rw_imul dX12_findBeds_56 ?_
      refine rw_iload_n dX12_findBeds_57 2 rfl rfl ?_
      refine rw_iadd dX12_findBeds_58 ?_
      obtain ⟨hi10, hf⟩ := grd hf
      refine sl_60 hr dX12_findBeds_59 (inB_in hi10) ?_
      refine rw_iconst (v := (-1)) dX12_findBeds_60 (by decide) ?_
      refine rw_icmp_ne (tgt := 112) dX12_findBeds_61 (by decide) (fun c11 => ?_) (fun c11 => ?_)
      · rw [if_neg c11] at hf
        exact t_jX12_findBeds_112 (ad := ad) (G := G) k29 (lX12_findBeds_39 k29 n) hk29 ih v1 v2 σ _ hr hf
      · rw [if_pos c11] at hf
        refine rw_aload_n dX12_findBeds_64 0 rfl rfl ?_
        refine sg_43_26 hr dX12_findBeds_65 fl1488 ?_
        refine rw_bipush (v := 12) dX12_findBeds_68 (by decide) ?_
        refine rw_iload_n dX12_findBeds_70 1 rfl rfl ?_
        refine rw_imul dX12_findBeds_71 ?_
        refine rw_iload_n dX12_findBeds_72 2 rfl rfl ?_
        refine rw_iadd dX12_findBeds_73 ?_
        refine rw_aload_n dX12_findBeds_74 0 rfl rfl ?_
        refine sg_43_25 hr dX12_findBeds_75 fl1487 ?_
        obtain ⟨hi12, hf⟩ := grd hf
        refine ss_60 hr dX12_findBeds_78 (inB_in hi12) (fun h hr => ?_)
        refine nmS hf hr (fun σ13 hr hf => ?_)
        refine rw_aload_n dX12_findBeds_79 0 rfl rfl ?_
        refine sg_43_27 hr dX12_findBeds_80 fl1489 ?_
        refine rw_aload_n dX12_findBeds_83 0 rfl rfl ?_
        refine sg_43_25 hr dX12_findBeds_84 fl1487 ?_
        refine rw_bipush (v := 12) dX12_findBeds_87 (by decide) ?_
        refine rw_iload_n dX12_findBeds_89 1 rfl rfl ?_
        refine rw_imul dX12_findBeds_90 ?_
        refine rw_iload_n dX12_findBeds_91 2 rfl rfl ?_
        refine rw_iadd dX12_findBeds_92 ?_
        obtain ⟨hi14, hf⟩ := grd hf
        refine ss_61 hr dX12_findBeds_93 (inB_in hi14) (fun h hr => ?_)
        refine nmS hf hr (fun σ15 hr hf => ?_)
        refine rw_aload_n dX12_findBeds_94 0 rfl rfl ?_
        refine rw_aload_n dX12_findBeds_95 0 rfl rfl ?_
        refine sg_43_25 hr dX12_findBeds_96 fl1487 ?_
        obtain ⟨q16, hq16, hf⟩ := bnd hf
        refine kV_V (ad := ad) (As := [.int (σ15.1 43 25)]) (st := []) dX12_findBeds_99 calX12_spread wm1716 wm1718 wm44 rfl rfl (rc_43 hr) (ci := 12) (by decide) rfl rfl (Nat.le_of_ble_eq_true rfl) ⟨⟨by decide, by decide⟩, by decide, by decide⟩ (cmX12_spread hr hq16) (fun h hr => ?_)
        refine rw_aload_n dX12_findBeds_102 0 rfl rfl ?_
        refine rw_dup dX12_findBeds_103 rfl ?_
        refine sg_43_25 hr dX12_findBeds_104 fl1487 ?_
        refine rw_iconst (v := 1) dX12_findBeds_107 (by decide) ?_
        refine rw_iadd dX12_findBeds_108 ?_
        refine sp_43_25 hr dX12_findBeds_109 fl1487 (fun h hr => ?_)
        refine nmS hf hr (fun σ17 hr hf => ?_)
        exact t_jX12_findBeds_112 (ad := ad) (G := G) k29 (lX12_findBeds_39 k29 n) hk29 ih v1 v2 σ17 _ hr hf
def lX12_findBeds_29  : Nat → Int32 → rS → Option (Unit × rS)
  | 0, _, _ => none
  | n + 1, v1, σ => if (σ.1 43 2) ≤ v1 then some ((), σ) else lX12_findBeds_39 (lX12_findBeds_29 n) 1000 v1 0 σ
set_option maxHeartbeats 4000000 in
theorem t_lX12_findBeds_29 {G : rG} {ad : Nat → Nat} {o : (Unit × rS)}   : ∀ (n : Nat) (v1 : Int32) (σ : rS) (h : rH), Rep G ad σ h → lX12_findBeds_29  n v1 σ = some o → RW G mX12_findBeds (rm 1 0 0) (qV G ad o) xN 0 0 29 [(0, .ref (ad 43)), (1, .int v1)] [] h := by
  intro n
  induction n with
  | zero =>
    intro v1 σ h hr hf
    rw [lX12_findBeds_29] at hf
    cases hf
  | succ n ih =>
    intro v1 σ h hr hf
    rw [lX12_findBeds_29] at hf
    refine rw_iload_n dX12_findBeds_29 1 rfl rfl ?_
    refine rw_aload_n dX12_findBeds_30 0 rfl rfl ?_
    refine sg_43_2 hr dX12_findBeds_31 fl1464 ?_
    refine rw_icmp_ge (tgt := 124) dX12_findBeds_34 (by decide) (fun c6 => ?_) (fun c6 => ?_)
    · rw [if_pos c6] at hf
      replace hf := Option.some.inj hf
      subst hf
      exact rw_return dX12_findBeds_124 rfl ⟨rfl, hr⟩ (by decide) (by decide)
    · rw [if_neg c6] at hf
      refine rw_iconst (v := 0) dX12_findBeds_37 (by decide) ?_
      refine rw_istore_n (lv2 := [(2, .int 0), (0, .ref (ad 43)), (1, .int v1)]) dX12_findBeds_38 rfl (by decide) rfl ?_
      refine rw_sub [1, 2, 0] rfl ?_
      exact t_lX12_findBeds_39 (ad := ad) (G := G) (lX12_findBeds_29 n) ih 1000 v1 0 σ _ hr hf
def lX12_findBeds_7  : Nat → Int32 → rS → Option (Unit × rS)
  | 0, _, _ => none
  | n + 1, v1, σ => if 192 ≤ v1 then lX12_findBeds_29 1000 0 σ else if inB v1 192 then vS (uA σ 60 v1.toNatClampNeg ((-1))) fun σ4 => vI (v1 + 1) fun x5 => (lX12_findBeds_7 n) x5 σ4 else none
set_option maxHeartbeats 4000000 in
theorem t_lX12_findBeds_7 {G : rG} {ad : Nat → Nat} {o : (Unit × rS)}   : ∀ (n : Nat) (v1 : Int32) (σ : rS) (h : rH), Rep G ad σ h → lX12_findBeds_7  n v1 σ = some o → RW G mX12_findBeds (rm 1 0 0) (qV G ad o) xN 0 0 7 [(0, .ref (ad 43)), (1, .int v1)] [] h := by
  intro n
  induction n with
  | zero =>
    intro v1 σ h hr hf
    rw [lX12_findBeds_7] at hf
    cases hf
  | succ n ih =>
    intro v1 σ h hr hf
    rw [lX12_findBeds_7] at hf
    refine rw_iload_n dX12_findBeds_7 1 rfl rfl ?_
    refine rw_sipush (v := 192) dX12_findBeds_8 (by decide) ?_
    refine rw_icmp_ge (tgt := 27) dX12_findBeds_11 (by decide) (fun c2 => ?_) (fun c2 => ?_)
    · rw [if_pos c2] at hf
      refine rw_iconst (v := 0) dX12_findBeds_27 (by decide) ?_
      refine rw_istore_n (lv2 := [(1, .int 0), (0, .ref (ad 43))]) dX12_findBeds_28 rfl (by decide) rfl ?_
      refine rw_sub [1, 0] rfl ?_
      exact t_lX12_findBeds_29 (ad := ad) (G := G)  1000 0 σ _ hr hf
    · rw [if_neg c2] at hf
      refine rw_aload_n dX12_findBeds_14 0 rfl rfl ?_
      refine sg_43_26 hr dX12_findBeds_15 fl1488 ?_
      refine rw_iload_n dX12_findBeds_18 1 rfl rfl ?_
      refine rw_iconst (v := (-1)) dX12_findBeds_19 (by decide) ?_
      obtain ⟨hi3, hf⟩ := grd hf
      refine ss_60 hr dX12_findBeds_20 (inB_in hi3) (fun h hr => ?_)
      refine nmS hf hr (fun σ4 hr hf => ?_)
      refine rw_iinc (v := v1 + 1) (lv2 := [(1, .int (v1 + 1)), (0, .ref (ad 43))]) dX12_findBeds_21 1 rfl rfl (by decide) rfl ?_
      refine nmL hf (fun x5 hf => ?_)
      refine rw_goto (tgt := 7) dX12_findBeds_24 (by decide) ?_
      refine rw_sub [1, 0] rfl ?_
      exact ih x5 σ4 _ hr hf
def fX12_findBeds  (σ : rS) : Option (Unit × rS) := vS (uI σ 43 25 0) fun σ1 => lX12_findBeds_7 1000 0 σ1
set_option maxHeartbeats 4000000 in
theorem cmX12_findBeds {G : rG} {ad : Nat → Nat}  {σ : rS} {h : rH} {o : (Unit × rS)} (hr : Rep G ad σ h) (hf : fX12_findBeds  σ = some o) : rMT G mX12_findBeds (rm 1 0 0) [.ref (ad 43)] h (qV G ad o) xN := by
  unfold fX12_findBeds at hf
  refine rw_met (by decide +kernel) rfl (Nat.le_of_ble_eq_true rfl) ?_
  show RW G _ _ _ _ 0 0 0 [(0, .ref (ad 43))] [] h
  refine rw_aload_n dX12_findBeds_0 0 rfl rfl ?_
  refine rw_iconst (v := 0) dX12_findBeds_1 (by decide) ?_
  refine sp_43_25 hr dX12_findBeds_2 fl1487 (fun h hr => ?_)
  refine nmS hf hr (fun σ1 hr hf => ?_)
  refine rw_iconst (v := 0) dX12_findBeds_5 (by decide) ?_
  refine rw_istore_n (lv2 := [(1, .int 0), (0, .ref (ad 43))]) dX12_findBeds_6 rfl (by decide) rfl ?_
  refine rw_sub [1, 0] rfl ?_
  exact t_lX12_findBeds_7 (ad := ad) (G := G)  1000 0 σ1 _ hr hf
def jX12_run_37 (k15 : Int32 → rS → Option (Int32 × rS)) (v1 : Int32) (σ : rS) : Option (Int32 × rS) := vI (v1 + 1) fun x10 => k15 x10 σ
set_option maxHeartbeats 4000000 in
theorem t_jX12_run_37 {G : rG} {ad : Nat → Nat} {o : (Int32 × rS)} (k15 : Int32 → rS → Option (Int32 × rS)) (hk15 : ∀ (v1 : Int32) (σ : rS) (h : rH), Rep G ad σ h → k15 v1 σ = some o → RW G mX12_run (rm 6 0 0) (qI G ad o) xN 0 0 15 [(0, .ref (ad 43)), (1, .int v1)] [] h) (v1 : Int32) (σ : rS) (h : rH) (hr : Rep G ad σ h) (hf : jX12_run_37 k15 v1 σ = some o) : RW G mX12_run (rm 6 0 0) (qI G ad o) xN 0 0 37 [(0, .ref (ad 43)), (1, .int v1)] [] h := by
  unfold jX12_run_37 at hf
  refine rw_iinc (v := v1 + 1) (lv2 := [(1, .int (v1 + 1)), (0, .ref (ad 43))]) dX12_run_37 1 rfl rfl (by decide) rfl ?_
  refine nmL hf (fun x10 hf => ?_)
  refine rw_goto (tgt := 15) dX12_run_40 (by decide) ?_
  refine rw_sub [1, 0] rfl ?_
  exact hk15 x10 σ _ hr hf
def lX12_run_15  : Nat → Int32 → rS → Option (Int32 × rS)
  | 0, _, _ => none
  | n + 1, v1, σ => if (σ.1 43 16) ≤ v1 then (fX12_findBeds σ).bind fun q5 => vS (uI q5.2 43 1 1) fun σ6 => some ((σ6.1 43 25), σ6) else if inB v1 120 then (if (σ.2.2.1 55 v1.toNatClampNeg) = 0 then (fX12_matchEdge v1 σ).bind fun q9 => jX12_run_37 (lX12_run_15 n) v1 q9.2 else jX12_run_37 (lX12_run_15 n) v1 σ) else none
set_option maxHeartbeats 4000000 in
theorem t_lX12_run_15 {G : rG} {ad : Nat → Nat} {o : (Int32 × rS)}   : ∀ (n : Nat) (v1 : Int32) (σ : rS) (h : rH), Rep G ad σ h → lX12_run_15  n v1 σ = some o → RW G mX12_run (rm 6 0 0) (qI G ad o) xN 0 0 15 [(0, .ref (ad 43)), (1, .int v1)] [] h := by
  intro n
  induction n with
  | zero =>
    intro v1 σ h hr hf
    rw [lX12_run_15] at hf
    cases hf
  | succ n ih =>
    intro v1 σ h hr hf
    rw [lX12_run_15] at hf
    refine rw_iload_n dX12_run_15 1 rfl rfl ?_
    refine rw_aload_n dX12_run_16 0 rfl rfl ?_
    refine sg_43_16 hr dX12_run_17 fl1478 ?_
    refine rw_icmp_ge (tgt := 43) dX12_run_20 (by decide) (fun c4 => ?_) (fun c4 => ?_)
    · rw [if_pos c4] at hf
      refine rw_aload_n dX12_run_43 0 rfl rfl ?_
      obtain ⟨q5, hq5, hf⟩ := bnd hf
      refine kV_V (ad := ad) (As := []) (st := []) dX12_run_44 calX12_findBeds wm1712 wm1714 wm43 rfl rfl (rc_43 hr) (ci := 12) (by decide) rfl rfl (Nat.le_of_ble_eq_true rfl) ⟨⟨by decide, by decide⟩, by decide, by decide⟩ (cmX12_findBeds hr hq5) (fun h hr => ?_)
      refine rw_aload_n dX12_run_47 0 rfl rfl ?_
      refine rw_iconst (v := 1) dX12_run_48 (by decide) ?_
      refine sp_43_1 hr dX12_run_49 fl1463 (by decide) (by decide) (fun h hr => ?_)
      refine nmS hf hr (fun σ6 hr hf => ?_)
      refine rw_aload_n dX12_run_52 0 rfl rfl ?_
      refine sg_43_25 hr dX12_run_53 fl1487 ?_
      replace hf := Option.some.inj hf
      subst hf
      exact rw_ireturn dX12_run_56 rfl ⟨rfl, hr⟩ (by decide) (by decide)
    · rw [if_neg c4] at hf
      refine rw_aload_n dX12_run_23 0 rfl rfl ?_
      refine sg_43_19 hr dX12_run_24 fl1481 ?_
      refine rw_iload_n dX12_run_27 1 rfl rfl ?_
      obtain ⟨hi7, hf⟩ := grd hf
      refine sl_55 hr dX12_run_28 (inB_in hi7) ?_
      refine rw_if_ne (tgt := 37) dX12_run_29 (by decide) (fun c8 => ?_) (fun c8 => ?_)
      · rw [if_neg c8] at hf
        exact t_jX12_run_37 (ad := ad) (G := G) (lX12_run_15 n) ih v1 σ _ hr hf
      · rw [if_pos c8] at hf
        refine rw_aload_n dX12_run_32 0 rfl rfl ?_
        refine rw_iload_n dX12_run_33 1 rfl rfl ?_
        obtain ⟨q9, hq9, hf⟩ := bnd hf
        refine kV_V (ad := ad) (As := [.int v1]) (st := []) dX12_run_34 calX12_matchEdge wm1700 wm1702 wm41 rfl rfl (rc_43 hr) (ci := 12) (by decide) rfl rfl (Nat.le_of_ble_eq_true rfl) ⟨⟨by decide, by decide⟩, by decide, by decide⟩ (cmX12_matchEdge hr hq9) (fun h hr => ?_)
        exact t_jX12_run_37 (ad := ad) (G := G) (lX12_run_15 n) ih v1 q9.2 _ hr hf
def fX12_run  (σ : rS) : Option (Int32 × rS) := vS (uI σ 43 0 0) fun σ1 => (fX12_findEdges σ1).bind fun q2 => (fX12_findTriangles q2.2).bind fun q3 => lX12_run_15 1000 0 q3.2
set_option maxHeartbeats 4000000 in
theorem cmX12_run {G : rG} {ad : Nat → Nat}  {σ : rS} {h : rH} {o : (Int32 × rS)} (hr : Rep G ad σ h) (hf : fX12_run  σ = some o) : rMT G mX12_run (rm 6 0 0) [.ref (ad 43)] h (qI G ad o) xN := by
  unfold fX12_run at hf
  refine rw_met (by decide +kernel) rfl (Nat.le_of_ble_eq_true rfl) ?_
  show RW G _ _ _ _ 0 0 0 [(0, .ref (ad 43))] [] h
  refine rw_aload_n dX12_run_0 0 rfl rfl ?_
  refine rw_iconst (v := 0) dX12_run_1 (by decide) ?_
  refine sp_43_0 hr dX12_run_2 fl1462 (fun h hr => ?_)
  refine nmS hf hr (fun σ1 hr hf => ?_)
  refine rw_aload_n dX12_run_5 0 rfl rfl ?_
  obtain ⟨q2, hq2, hf⟩ := bnd hf
  refine kV_V (ad := ad) (As := []) (st := []) dX12_run_6 calX12_findEdges wm1653 wm1655 wm33 rfl rfl (rc_43 hr) (ci := 12) (by decide) rfl rfl (Nat.le_of_ble_eq_true rfl) ⟨⟨by decide, by decide⟩, by decide, by decide⟩ (cmX12_findEdges hr hq2) (fun h hr => ?_)
  refine rw_aload_n dX12_run_9 0 rfl rfl ?_
  obtain ⟨q3, hq3, hf⟩ := bnd hf
  refine kV_V (ad := ad) (As := []) (st := []) dX12_run_10 calX12_findTriangles wm1684 wm1686 wm37 rfl rfl (rc_43 hr) (ci := 12) (by decide) rfl rfl (Nat.le_of_ble_eq_true rfl) ⟨⟨by decide, by decide⟩, by decide, by decide⟩ (cmX12_findTriangles hr hq3) (fun h hr => ?_)
  refine rw_iconst (v := 0) dX12_run_13 (by decide) ?_
  refine rw_istore_n (lv2 := [(1, .int 0), (0, .ref (ad 43))]) dX12_run_14 rfl (by decide) rfl ?_
  refine rw_sub [1, 0] rfl ?_
  exact t_lX12_run_15 (ad := ad) (G := G)  1000 0 q3.2 _ hr hf
def jX12_fails_28  (s0 : Int32) (σ : rS) : Option (Int32 × rS) := if s0 = 0 ∨ s0 = 1 then some (s0, σ) else none
set_option maxHeartbeats 4000000 in
theorem t_jX12_fails_28 {G : rG} {ad : Nat → Nat} {o : (Int32 × rS)}   (s0 : Int32) (σ : rS) (h : rH) (hr : Rep G ad σ h) (hf : jX12_fails_28  s0 σ = some o) : RW G mX12_fails (rm 0 0 0) (qI G ad o) xN 0 0 28 [] [.int s0] h := by
  unfold jX12_fails_28 at hf
  obtain ⟨hz5, hf⟩ := grd hf
  replace hf := Option.some.inj hf
  subst hf
  exact rw_zreturn dX12_fails_28 rfl (nar_z hz5) ⟨rfl, hr⟩ (by decide) (by decide)
def jX12_fails_16   (σ : rS) : Option (Int32 × rS) := if (σ.1 43 0) ≤ 0 then jX12_fails_28 0 σ else jX12_fails_28 1 σ
set_option maxHeartbeats 4000000 in
theorem t_jX12_fails_16 {G : rG} {ad : Nat → Nat} {o : (Int32 × rS)}    (σ : rS) (h : rH) (hr : Rep G ad σ h) (hf : jX12_fails_16   σ = some o) : RW G mX12_fails (rm 0 0 0) (qI G ad o) xN 0 0 16 [(0, .ref (ad 43))] [] h := by
  unfold jX12_fails_16 at hf
  refine rw_aload_n dX12_fails_16 0 rfl rfl ?_
  refine sg_43_0 hr dX12_fails_17 fl1462 ?_
  refine rw_if_le (tgt := 27) dX12_fails_20 (by decide) (fun c4 => ?_) (fun c4 => ?_)
  · rw [if_pos c4] at hf
    refine rw_iconst (v := 0) dX12_fails_27 (by decide) ?_
    refine rw_sub [] rfl ?_
    exact t_jX12_fails_28 (ad := ad) (G := G)  0 σ _ hr hf
  · rw [if_neg c4] at hf
    refine rw_iconst (v := 1) dX12_fails_23 (by decide) ?_
    refine rw_goto (tgt := 28) dX12_fails_24 (by decide) ?_
    refine rw_sub [] rfl ?_
    exact t_jX12_fails_28 (ad := ad) (G := G)  1 σ _ hr hf
def fX12_fails (a0 : Int32) (a1 : Int32) (σ : rS) : Option (Int32 × rS) := if (σ.1 43 0) = 0 then if a0 = 0 then jX12_fails_16 σ else vS (uI σ 43 0 a1) fun σ3 => jX12_fails_16 σ3 else jX12_fails_16 σ
set_option maxHeartbeats 4000000 in
theorem cmX12_fails {G : rG} {ad : Nat → Nat} {a0 : Int32} {a1 : Int32} {σ : rS} {h : rH} {o : (Int32 × rS)} (hr : Rep G ad σ h) (hf : fX12_fails a0 a1 σ = some o) : rMT G mX12_fails (rm 0 0 0) [.ref (ad 43), .int a0, .int a1] h (qI G ad o) xN := by
  unfold fX12_fails at hf
  refine rw_met (by decide +kernel) rfl (Nat.le_of_ble_eq_true rfl) ?_
  show RW G _ _ _ _ 0 0 0 [(0, .ref (ad 43)), (1, .int a0), (2, .int a1)] [] h
  refine rw_aload_n dX12_fails_0 0 rfl rfl ?_
  refine sg_43_0 hr dX12_fails_1 fl1462 ?_
  refine rw_if_ne (tgt := 16) dX12_fails_4 (by decide) (fun c1 => ?_) (fun c1 => ?_)
  · rw [if_neg c1] at hf
    refine rw_sub [0] rfl ?_
    exact t_jX12_fails_16 (ad := ad) (G := G)  σ _ hr hf
  · rw [if_pos c1] at hf
    refine rw_iload_n dX12_fails_7 1 rfl rfl ?_
    refine rw_if_eq (tgt := 16) dX12_fails_8 (by decide) (fun c2 => ?_) (fun c2 => ?_)
    · rw [if_pos c2] at hf
      refine rw_sub [0] rfl ?_
      exact t_jX12_fails_16 (ad := ad) (G := G)  σ _ hr hf
    · rw [if_neg c2] at hf
      refine rw_aload_n dX12_fails_11 0 rfl rfl ?_
      refine rw_iload_n dX12_fails_12 2 rfl rfl ?_
      refine sp_43_0 hr dX12_fails_13 fl1462 (fun h hr => ?_)
      refine nmS hf hr (fun σ3 hr hf => ?_)
      refine rw_sub [0] rfl ?_
      exact t_jX12_fails_16 (ad := ad) (G := G)  σ3 _ hr hf
def jX12_isOld_18  (s0 : Int32) (σ : rS) : Option (Int32 × rS) := (fX12_fails s0 1 σ).bind fun q3 => if q3.1 = 0 ∨ q3.1 = 1 then some (q3.1, q3.2) else none
set_option maxHeartbeats 4000000 in
theorem t_jX12_isOld_18 {G : rG} {ad : Nat → Nat} {o : (Int32 × rS)}   (s0 : Int32) (σ : rS) (h : rH) (hr : Rep G ad σ h) (hf : jX12_isOld_18  s0 σ = some o) : RW G mX12_isOld (rm 1 0 0) (qI G ad o) xN 0 0 18 [] [.int s0, .ref (ad 43)] h := by
  unfold jX12_isOld_18 at hf
  refine rw_iconst (v := 1) dX12_isOld_18 (by decide) ?_
  obtain ⟨q3, hq3, hf⟩ := bnd hf
  refine kV_I (ad := ad) (As := [.int s0, .int 1]) (st := []) dX12_isOld_19 calX12_fails wm1728 wm1730 wm46 rfl rfl (rc_43 hr) (ci := 12) (by decide) rfl rfl (Nat.le_of_ble_eq_true rfl) ⟨⟨by decide, by decide⟩, by decide, by decide⟩ (cmX12_fails hr hq3) (fun h hr => ?_)
  obtain ⟨hz4, hf⟩ := grd hf
  replace hf := Option.some.inj hf
  subst hf
  exact rw_zreturn dX12_isOld_22 rfl (nar_z hz4) ⟨rfl, hr⟩ (by decide) (by decide)
def fX12_isOld  (σ : rS) : Option (Int32 × rS) := vS (uI σ 43 0 0) fun σ1 => if (σ1.1 43 1) = 0 then jX12_isOld_18 1 σ1 else jX12_isOld_18 0 σ1
set_option maxHeartbeats 4000000 in
theorem cmX12_isOld {G : rG} {ad : Nat → Nat}  {σ : rS} {h : rH} {o : (Int32 × rS)} (hr : Rep G ad σ h) (hf : fX12_isOld  σ = some o) : rMT G mX12_isOld (rm 1 0 0) [.ref (ad 43)] h (qI G ad o) xN := by
  unfold fX12_isOld at hf
  refine rw_met (by decide +kernel) rfl (Nat.le_of_ble_eq_true rfl) ?_
  show RW G _ _ _ _ 0 0 0 [(0, .ref (ad 43))] [] h
  refine rw_aload_n dX12_isOld_0 0 rfl rfl ?_
  refine rw_iconst (v := 0) dX12_isOld_1 (by decide) ?_
  refine sp_43_0 hr dX12_isOld_2 fl1462 (fun h hr => ?_)
  refine nmS hf hr (fun σ1 hr hf => ?_)
  refine rw_aload_n dX12_isOld_5 0 rfl rfl ?_
  refine rw_aload_n dX12_isOld_6 0 rfl rfl ?_
  refine sg_43_1 hr dX12_isOld_7 fl1463 ?_
  refine rw_if_ne (tgt := 17) dX12_isOld_10 (by decide) (fun c2 => ?_) (fun c2 => ?_)
  · rw [if_neg c2] at hf
    refine rw_iconst (v := 0) dX12_isOld_17 (by decide) ?_
    refine rw_sub [] rfl ?_
    exact t_jX12_isOld_18 (ad := ad) (G := G)  0 σ1 _ hr hf
  · rw [if_pos c2] at hf
    refine rw_iconst (v := 1) dX12_isOld_13 (by decide) ?_
    refine rw_goto (tgt := 18) dX12_isOld_14 (by decide) ?_
    refine rw_sub [] rfl ?_
    exact t_jX12_isOld_18 (ad := ad) (G := G)  1 σ1 _ hr hf
def jX12_count_131  (s0 : Int32) (σ : rS) : Option (Int32 × rS) := some (s0, σ)
set_option maxHeartbeats 4000000 in
theorem t_jX12_count_131 {G : rG} {ad : Nat → Nat} {o : (Int32 × rS)}   (s0 : Int32) (σ : rS) (h : rH) (hr : Rep G ad σ h) (hf : jX12_count_131  s0 σ = some o) : RW G mX12_count (rm 2 0 0) (qI G ad o) xN 0 0 131 [] [.int s0] h := by
  unfold jX12_count_131 at hf
  replace hf := Option.some.inj hf
  subst hf
  exact rw_ireturn dX12_count_131 rfl ⟨rfl, hr⟩ (by decide) (by decide)
def jX12_count_86 (k63 : Int32 → Int32 → Int32 → rS → Option (Int32 × rS)) (v1 : Int32) (v3 : Int32) (s0 : Int32) (s1 : Int32) (σ : rS) : Option (Int32 × rS) := vI (s1 + s0) fun x15 => vI (v3 + 1) fun x16 => k63 v1 x15 x16 σ
set_option maxHeartbeats 4000000 in
theorem t_jX12_count_86 {G : rG} {ad : Nat → Nat} {o : (Int32 × rS)} (k63 : Int32 → Int32 → Int32 → rS → Option (Int32 × rS)) (hk63 : ∀ (v1 : Int32) (v2 : Int32) (v3 : Int32) (σ : rS) (h : rH), Rep G ad σ h → k63 v1 v2 v3 σ = some o → RW G mX12_count (rm 2 0 0) (qI G ad o) xN 0 0 63 [(0, .ref (ad 43)), (1, .int v1), (2, .int v2), (3, .int v3)] [] h) (v1 : Int32) (v3 : Int32) (s0 : Int32) (s1 : Int32) (σ : rS) (h : rH) (hr : Rep G ad σ h) (hf : jX12_count_86 k63 v1 v3 s0 s1 σ = some o) : RW G mX12_count (rm 2 0 0) (qI G ad o) xN 0 0 86 [(0, .ref (ad 43)), (1, .int v1), (3, .int v3)] [.int s0, .int s1] h := by
  unfold jX12_count_86 at hf
  refine rw_iadd dX12_count_86 ?_
  refine nmI hf (fun x15 hf => ?_)
  refine rw_istore_n (lv2 := [(2, .int x15), (0, .ref (ad 43)), (1, .int v1), (3, .int v3)]) dX12_count_87 rfl (by decide) rfl ?_
  refine rw_iinc (v := v3 + 1) (lv2 := [(3, .int (v3 + 1)), (2, .int x15), (0, .ref (ad 43)), (1, .int v1)]) dX12_count_88 3 rfl rfl (by decide) rfl ?_
  refine nmL hf (fun x16 hf => ?_)
  refine rw_goto (tgt := 63) dX12_count_91 (by decide) ?_
  refine rw_sub [2, 3, 1, 0] rfl ?_
  exact hk63 v1 x15 x16 σ _ hr hf
def lX12_count_63  : Nat → Int32 → Int32 → Int32 → rS → Option (Int32 × rS)
  | 0, _, _, _, _ => none
  | n + 1, v1, v2, v3, σ => if (σ.1 43 16) ≤ v3 then if v1 = 3 then jX12_count_131 (σ.1 43 16) σ else if v1 = 4 then jX12_count_131 v2 σ else if v1 = 5 then jX12_count_131 (σ.1 43 23) σ else jX12_count_131 (σ.1 43 25) σ else if inB v3 120 then (if (σ.2.2.1 55 v3.toNatClampNeg) = 0 then jX12_count_86 (lX12_count_63 n) v1 v3 0 v2 σ else jX12_count_86 (lX12_count_63 n) v1 v3 1 v2 σ) else none
set_option maxHeartbeats 4000000 in
theorem t_lX12_count_63 {G : rG} {ad : Nat → Nat} {o : (Int32 × rS)}   : ∀ (n : Nat) (v1 : Int32) (v2 : Int32) (v3 : Int32) (σ : rS) (h : rH), Rep G ad σ h → lX12_count_63  n v1 v2 v3 σ = some o → RW G mX12_count (rm 2 0 0) (qI G ad o) xN 0 0 63 [(0, .ref (ad 43)), (1, .int v1), (2, .int v2), (3, .int v3)] [] h := by
  intro n
  induction n with
  | zero =>
    intro v1 v2 v3 σ h hr hf
    rw [lX12_count_63] at hf
    cases hf
  | succ n ih =>
    intro v1 v2 v3 σ h hr hf
    rw [lX12_count_63] at hf
    refine rw_iload_n dX12_count_63 3 rfl rfl ?_
    refine rw_aload_n dX12_count_64 0 rfl rfl ?_
    refine sg_43_16 hr dX12_count_65 fl1478 ?_
    refine rw_icmp_ge (tgt := 94) dX12_count_68 (by decide) (fun c9 => ?_) (fun c9 => ?_)
    · rw [if_pos c9] at hf
      refine rw_iload_n dX12_count_94 1 rfl rfl ?_
      refine rw_iconst (v := 3) dX12_count_95 (by decide) ?_
      refine rw_icmp_ne (tgt := 106) dX12_count_96 (by decide) (fun c10 => ?_) (fun c10 => ?_)
      · rw [if_neg c10] at hf
        refine rw_iload_n dX12_count_106 1 rfl rfl ?_
        refine rw_iconst (v := 4) dX12_count_107 (by decide) ?_
        refine rw_icmp_ne (tgt := 115) dX12_count_108 (by decide) (fun c11 => ?_) (fun c11 => ?_)
        · rw [if_neg c11] at hf
          refine rw_iload_n dX12_count_115 1 rfl rfl ?_
          refine rw_iconst (v := 5) dX12_count_116 (by decide) ?_
          refine rw_icmp_ne (tgt := 127) dX12_count_117 (by decide) (fun c12 => ?_) (fun c12 => ?_)
          · rw [if_neg c12] at hf
            refine rw_aload_n dX12_count_127 0 rfl rfl ?_
            refine sg_43_25 hr dX12_count_128 fl1487 ?_
            refine rw_sub [] rfl ?_
            exact t_jX12_count_131 (ad := ad) (G := G)  (σ.1 43 25) σ _ hr hf
          · rw [if_pos c12] at hf
            refine rw_aload_n dX12_count_120 0 rfl rfl ?_
            refine sg_43_23 hr dX12_count_121 fl1485 ?_
            refine rw_goto (tgt := 131) dX12_count_124 (by decide) ?_
            refine rw_sub [] rfl ?_
            exact t_jX12_count_131 (ad := ad) (G := G)  (σ.1 43 23) σ _ hr hf
        · rw [if_pos c11] at hf
          refine rw_iload_n dX12_count_111 2 rfl rfl ?_
          refine rw_goto (tgt := 131) dX12_count_112 (by decide) ?_
          refine rw_sub [] rfl ?_
          exact t_jX12_count_131 (ad := ad) (G := G)  v2 σ _ hr hf
      · rw [if_pos c10] at hf
        refine rw_aload_n dX12_count_99 0 rfl rfl ?_
        refine sg_43_16 hr dX12_count_100 fl1478 ?_
        refine rw_goto (tgt := 131) dX12_count_103 (by decide) ?_
        refine rw_sub [] rfl ?_
        exact t_jX12_count_131 (ad := ad) (G := G)  (σ.1 43 16) σ _ hr hf
    · rw [if_neg c9] at hf
      refine rw_iload_n dX12_count_71 2 rfl rfl ?_
      refine rw_aload_n dX12_count_72 0 rfl rfl ?_
      refine sg_43_19 hr dX12_count_73 fl1481 ?_
      refine rw_iload_n dX12_count_76 3 rfl rfl ?_
      obtain ⟨hi13, hf⟩ := grd hf
      refine sl_55 hr dX12_count_77 (inB_in hi13) ?_
      refine rw_if_eq (tgt := 85) dX12_count_78 (by decide) (fun c14 => ?_) (fun c14 => ?_)
      · rw [if_pos c14] at hf
        refine rw_iconst (v := 0) dX12_count_85 (by decide) ?_
        refine rw_sub [0, 1, 3] rfl ?_
        exact t_jX12_count_86 (ad := ad) (G := G) (lX12_count_63 n) ih v1 v3 0 v2 σ _ hr hf
      · rw [if_neg c14] at hf
        refine rw_iconst (v := 1) dX12_count_81 (by decide) ?_
        refine rw_goto (tgt := 86) dX12_count_82 (by decide) ?_
        refine rw_sub [0, 1, 3] rfl ?_
        exact t_jX12_count_86 (ad := ad) (G := G) (lX12_count_63 n) ih v1 v3 1 v2 σ _ hr hf
def jX12_count_49  (s0 : Int32) (σ : rS) : Option (Int32 × rS) := some (s0, σ)
set_option maxHeartbeats 4000000 in
theorem t_jX12_count_49 {G : rG} {ad : Nat → Nat} {o : (Int32 × rS)}   (s0 : Int32) (σ : rS) (h : rH) (hr : Rep G ad σ h) (hf : jX12_count_49  s0 σ = some o) : RW G mX12_count (rm 2 0 0) (qI G ad o) xN 0 0 49 [] [.int s0] h := by
  unfold jX12_count_49 at hf
  replace hf := Option.some.inj hf
  subst hf
  exact rw_ireturn dX12_count_49 rfl ⟨rfl, hr⟩ (by decide) (by decide)
def fX12_count (a0 : Int32) (σ : rS) : Option (Int32 × rS) := vS (uI σ 43 0 0) fun σ1 => (fX12_in a0 0 6 σ1).bind fun q2 => if q2.1 = 0 then some (((-1)), q2.2) else if 3 ≤ a0 then (fX12_isOld q2.2).bind fun q5 => if q5.1 = 0 then lX12_count_63 1000 a0 0 0 q5.2 else some (0, q5.2) else if a0 = 0 then jX12_count_49 (q2.2.1 43 2) q2.2 else if a0 = 1 then jX12_count_49 (q2.2.1 43 10) q2.2 else jX12_count_49 (q2.2.1 43 14) q2.2
set_option maxHeartbeats 4000000 in
theorem cmX12_count {G : rG} {ad : Nat → Nat} {a0 : Int32} {σ : rS} {h : rH} {o : (Int32 × rS)} (hr : Rep G ad σ h) (hf : fX12_count a0 σ = some o) : rMT G mX12_count (rm 2 0 0) [.ref (ad 43), .int a0] h (qI G ad o) xN := by
  unfold fX12_count at hf
  refine rw_met (by decide +kernel) rfl (Nat.le_of_ble_eq_true rfl) ?_
  show RW G _ _ _ _ 0 0 0 [(0, .ref (ad 43)), (1, .int a0)] [] h
  refine rw_aload_n dX12_count_0 0 rfl rfl ?_
  refine rw_iconst (v := 0) dX12_count_1 (by decide) ?_
  refine sp_43_0 hr dX12_count_2 fl1462 (fun h hr => ?_)
  refine nmS hf hr (fun σ1 hr hf => ?_)
  refine rw_iload_n dX12_count_5 1 rfl rfl ?_
  refine rw_iconst (v := 0) dX12_count_6 (by decide) ?_
  refine rw_bipush (v := 6) dX12_count_7 (by decide) ?_
  obtain ⟨q2, hq2, hf⟩ := bnd hf
  refine kS_I (ad := ad) (As := [.int a0, .int 0, .int 6]) (st := []) dX12_count_9 calX12_in wm1612 wm1613 rfl rfl (Nat.le_of_ble_eq_true rfl) ⟨⟨by decide, by decide⟩, by decide, by decide⟩ (cmX12_in hr hq2) (fun h hr => ?_)
  refine rw_if_ne (tgt := 17) dX12_count_12 (by decide) (fun c3 => ?_) (fun c3 => ?_)
  · rw [if_neg c3] at hf
    refine rw_iload_n dX12_count_17 1 rfl rfl ?_
    refine rw_iconst (v := 3) dX12_count_18 (by decide) ?_
    refine rw_icmp_ge (tgt := 50) dX12_count_19 (by decide) (fun c4 => ?_) (fun c4 => ?_)
    · rw [if_pos c4] at hf
      refine rw_aload_n dX12_count_50 0 rfl rfl ?_
      obtain ⟨q5, hq5, hf⟩ := bnd hf
      refine kV_I (ad := ad) (As := []) (st := []) dX12_count_51 calX12_isOld wm1724 wm1726 wm45 rfl rfl (rc_43 hr) (ci := 12) (by decide) rfl rfl (Nat.le_of_ble_eq_true rfl) ⟨⟨by decide, by decide⟩, by decide, by decide⟩ (cmX12_isOld hr hq5) (fun h hr => ?_)
      refine rw_if_eq (tgt := 59) dX12_count_54 (by decide) (fun c6 => ?_) (fun c6 => ?_)
      · rw [if_pos c6] at hf
        refine rw_iconst (v := 0) dX12_count_59 (by decide) ?_
        refine rw_istore_n (lv2 := [(2, .int 0), (0, .ref (ad 43)), (1, .int a0)]) dX12_count_60 rfl (by decide) rfl ?_
        refine rw_iconst (v := 0) dX12_count_61 (by decide) ?_
        refine rw_istore_n (lv2 := [(3, .int 0), (2, .int 0), (0, .ref (ad 43)), (1, .int a0)]) dX12_count_62 rfl (by decide) rfl ?_
        refine rw_sub [2, 3, 1, 0] rfl ?_
        exact t_lX12_count_63 (ad := ad) (G := G)  1000 a0 0 0 q5.2 _ hr hf
      · rw [if_neg c6] at hf
        refine rw_iconst (v := 0) dX12_count_57 (by decide) ?_
        replace hf := Option.some.inj hf
        subst hf
        exact rw_ireturn dX12_count_58 rfl ⟨rfl, hr⟩ (by decide) (by decide)
    · rw [if_neg c4] at hf
      refine rw_iload_n dX12_count_22 1 rfl rfl ?_
      refine rw_if_ne (tgt := 33) dX12_count_23 (by decide) (fun c7 => ?_) (fun c7 => ?_)
      · rw [if_neg c7] at hf
        refine rw_iload_n dX12_count_33 1 rfl rfl ?_
        refine rw_iconst (v := 1) dX12_count_34 (by decide) ?_
        refine rw_icmp_ne (tgt := 45) dX12_count_35 (by decide) (fun c8 => ?_) (fun c8 => ?_)
        · rw [if_neg c8] at hf
          refine rw_aload_n dX12_count_45 0 rfl rfl ?_
          refine sg_43_14 hr dX12_count_46 fl1476 ?_
          refine rw_sub [] rfl ?_
          exact t_jX12_count_49 (ad := ad) (G := G)  (q2.2.1 43 14) q2.2 _ hr hf
        · rw [if_pos c8] at hf
          refine rw_aload_n dX12_count_38 0 rfl rfl ?_
          refine sg_43_10 hr dX12_count_39 fl1472 ?_
          refine rw_goto (tgt := 49) dX12_count_42 (by decide) ?_
          refine rw_sub [] rfl ?_
          exact t_jX12_count_49 (ad := ad) (G := G)  (q2.2.1 43 10) q2.2 _ hr hf
      · rw [if_pos c7] at hf
        refine rw_aload_n dX12_count_26 0 rfl rfl ?_
        refine sg_43_2 hr dX12_count_27 fl1464 ?_
        refine rw_goto (tgt := 49) dX12_count_30 (by decide) ?_
        refine rw_sub [] rfl ?_
        exact t_jX12_count_49 (ad := ad) (G := G)  (q2.2.1 43 2) q2.2 _ hr hf
  · rw [if_pos c3] at hf
    refine rw_iconst (v := (-1)) dX12_count_15 (by decide) ?_
    replace hf := Option.some.inj hf
    subst hf
    exact rw_ireturn dX12_count_16 rfl ⟨rfl, hr⟩ (by decide) (by decide)
def jX12_edge_99  (s0 : Int32) (σ : rS) : Option (Int32 × rS) := some (s0, σ)
set_option maxHeartbeats 4000000 in
theorem t_jX12_edge_99 {G : rG} {ad : Nat → Nat} {o : (Int32 × rS)}   (s0 : Int32) (σ : rS) (h : rH) (hr : Rep G ad σ h) (hf : jX12_edge_99  s0 σ = some o) : RW G mX12_edge (rm 2 0 0) (qI G ad o) xN 0 0 99 [] [.int s0] h := by
  unfold jX12_edge_99 at hf
  replace hf := Option.some.inj hf
  subst hf
  exact rw_ireturn dX12_edge_99 rfl ⟨rfl, hr⟩ (by decide) (by decide)
def jX12_edge_56   (σ : rS) : Option (Int32 × rS) := some (0, σ)
set_option maxHeartbeats 4000000 in
theorem t_jX12_edge_56 {G : rG} {ad : Nat → Nat} {o : (Int32 × rS)}    (σ : rS) (h : rH) (hr : Rep G ad σ h) (hf : jX12_edge_56   σ = some o) : RW G mX12_edge (rm 2 0 0) (qI G ad o) xN 0 0 56 [] [] h := by
  unfold jX12_edge_56 at hf
  refine rw_iconst (v := 0) dX12_edge_56 (by decide) ?_
  replace hf := Option.some.inj hf
  subst hf
  exact rw_ireturn dX12_edge_57 rfl ⟨rfl, hr⟩ (by decide) (by decide)
def jX12_edge_49  (v1 : Int32) (v2 : Int32) (s0 : Int32) (σ : rS) : Option (Int32 × rS) := (fX12_fails s0 3 σ).bind fun q9 => if q9.1 = 0 then if v2 = 0 then if inB v1 120 then jX12_edge_99 (q9.2.2.2.1 53 v1.toNatClampNeg) q9.2 else none else if v2 = 1 then if inB v1 120 then jX12_edge_99 (q9.2.2.2.1 54 v1.toNatClampNeg) q9.2 else none else if inB v1 120 then (if (q9.2.2.2.1 55 v1.toNatClampNeg) = 0 then jX12_edge_99 0 q9.2 else jX12_edge_99 1 q9.2) else none else jX12_edge_56 q9.2
set_option maxHeartbeats 4000000 in
theorem t_jX12_edge_49 {G : rG} {ad : Nat → Nat} {o : (Int32 × rS)}   (v1 : Int32) (v2 : Int32) (s0 : Int32) (σ : rS) (h : rH) (hr : Rep G ad σ h) (hf : jX12_edge_49  v1 v2 s0 σ = some o) : RW G mX12_edge (rm 2 0 0) (qI G ad o) xN 0 0 49 [(0, .ref (ad 43)), (1, .int v1), (2, .int v2)] [.int s0, .ref (ad 43)] h := by
  unfold jX12_edge_49 at hf
  refine rw_iconst (v := 3) dX12_edge_49 (by decide) ?_
  obtain ⟨q9, hq9, hf⟩ := bnd hf
  refine kV_I (ad := ad) (As := [.int s0, .int 3]) (st := []) dX12_edge_50 calX12_fails wm1728 wm1730 wm46 rfl rfl (rc_43 hr) (ci := 12) (by decide) rfl rfl (Nat.le_of_ble_eq_true rfl) ⟨⟨by decide, by decide⟩, by decide, by decide⟩ (cmX12_fails hr hq9) (fun h hr => ?_)
  refine rw_if_eq (tgt := 58) dX12_edge_53 (by decide) (fun c10 => ?_) (fun c10 => ?_)
  · rw [if_pos c10] at hf
    refine rw_iload_n dX12_edge_58 2 rfl rfl ?_
    refine rw_if_ne (tgt := 71) dX12_edge_59 (by decide) (fun c11 => ?_) (fun c11 => ?_)
    · rw [if_neg c11] at hf
      refine rw_iload_n dX12_edge_71 2 rfl rfl ?_
      refine rw_iconst (v := 1) dX12_edge_72 (by decide) ?_
      refine rw_icmp_ne (tgt := 85) dX12_edge_73 (by decide) (fun c12 => ?_) (fun c12 => ?_)
      · rw [if_neg c12] at hf
        refine rw_aload_n dX12_edge_85 0 rfl rfl ?_
        refine sg_43_19 hr dX12_edge_86 fl1481 ?_
        refine rw_iload_n dX12_edge_89 1 rfl rfl ?_
        obtain ⟨hi13, hf⟩ := grd hf
        refine sl_55 hr dX12_edge_90 (inB_in hi13) ?_
        refine rw_if_eq (tgt := 98) dX12_edge_91 (by decide) (fun c14 => ?_) (fun c14 => ?_)
        · rw [if_pos c14] at hf
          refine rw_iconst (v := 0) dX12_edge_98 (by decide) ?_
          refine rw_sub [] rfl ?_
          exact t_jX12_edge_99 (ad := ad) (G := G)  0 q9.2 _ hr hf
        · rw [if_neg c14] at hf
          refine rw_iconst (v := 1) dX12_edge_94 (by decide) ?_
          refine rw_goto (tgt := 99) dX12_edge_95 (by decide) ?_
          refine rw_sub [] rfl ?_
          exact t_jX12_edge_99 (ad := ad) (G := G)  1 q9.2 _ hr hf
      · rw [if_pos c12] at hf
        refine rw_aload_n dX12_edge_76 0 rfl rfl ?_
        refine sg_43_18 hr dX12_edge_77 fl1480 ?_
        refine rw_iload_n dX12_edge_80 1 rfl rfl ?_
        obtain ⟨hi15, hf⟩ := grd hf
        refine sl_54 hr dX12_edge_81 (inB_in hi15) ?_
        refine rw_goto (tgt := 99) dX12_edge_82 (by decide) ?_
        refine rw_sub [] rfl ?_
        exact t_jX12_edge_99 (ad := ad) (G := G)  (q9.2.2.2.1 54 v1.toNatClampNeg) q9.2 _ hr hf
    · rw [if_pos c11] at hf
      refine rw_aload_n dX12_edge_62 0 rfl rfl ?_
      refine sg_43_17 hr dX12_edge_63 fl1479 ?_
      refine rw_iload_n dX12_edge_66 1 rfl rfl ?_
      obtain ⟨hi16, hf⟩ := grd hf
      refine sl_53 hr dX12_edge_67 (inB_in hi16) ?_
      refine rw_goto (tgt := 99) dX12_edge_68 (by decide) ?_
      refine rw_sub [] rfl ?_
      exact t_jX12_edge_99 (ad := ad) (G := G)  (q9.2.2.2.1 53 v1.toNatClampNeg) q9.2 _ hr hf
  · rw [if_neg c10] at hf
    refine rw_sub [] rfl ?_
    exact t_jX12_edge_56 (ad := ad) (G := G)  q9.2 _ hr hf
def jX12_edge_27  (v1 : Int32) (v2 : Int32) (s0 : Int32) (σ : rS) : Option (Int32 × rS) := (fX12_fails s0 2 σ).bind fun q5 => if q5.1 = 0 then (fX12_in v2 0 2 q5.2).bind fun q7 => if q7.1 = 0 then jX12_edge_49 v1 v2 1 q7.2 else jX12_edge_49 v1 v2 0 q7.2 else jX12_edge_56 q5.2
set_option maxHeartbeats 4000000 in
theorem t_jX12_edge_27 {G : rG} {ad : Nat → Nat} {o : (Int32 × rS)}   (v1 : Int32) (v2 : Int32) (s0 : Int32) (σ : rS) (h : rH) (hr : Rep G ad σ h) (hf : jX12_edge_27  v1 v2 s0 σ = some o) : RW G mX12_edge (rm 2 0 0) (qI G ad o) xN 0 0 27 [(0, .ref (ad 43)), (1, .int v1), (2, .int v2)] [.int s0, .ref (ad 43)] h := by
  unfold jX12_edge_27 at hf
  refine rw_iconst (v := 2) dX12_edge_27 (by decide) ?_
  obtain ⟨q5, hq5, hf⟩ := bnd hf
  refine kV_I (ad := ad) (As := [.int s0, .int 2]) (st := []) dX12_edge_28 calX12_fails wm1728 wm1730 wm46 rfl rfl (rc_43 hr) (ci := 12) (by decide) rfl rfl (Nat.le_of_ble_eq_true rfl) ⟨⟨by decide, by decide⟩, by decide, by decide⟩ (cmX12_fails hr hq5) (fun h hr => ?_)
  refine rw_if_ne (tgt := 56) dX12_edge_31 (by decide) (fun c6 => ?_) (fun c6 => ?_)
  · rw [if_neg c6] at hf
    refine rw_sub [] rfl ?_
    exact t_jX12_edge_56 (ad := ad) (G := G)  q5.2 _ hr hf
  · rw [if_pos c6] at hf
    refine rw_aload_n dX12_edge_34 0 rfl rfl ?_
    refine rw_iload_n dX12_edge_35 2 rfl rfl ?_
    refine rw_iconst (v := 0) dX12_edge_36 (by decide) ?_
    refine rw_iconst (v := 2) dX12_edge_37 (by decide) ?_
    obtain ⟨q7, hq7, hf⟩ := bnd hf
    refine kS_I (ad := ad) (As := [.int v2, .int 0, .int 2]) (st := [.ref (ad 43)]) dX12_edge_38 calX12_in wm1612 wm1613 rfl rfl (Nat.le_of_ble_eq_true rfl) ⟨⟨by decide, by decide⟩, by decide, by decide⟩ (cmX12_in hr hq7) (fun h hr => ?_)
    refine rw_if_ne (tgt := 48) dX12_edge_41 (by decide) (fun c8 => ?_) (fun c8 => ?_)
    · rw [if_neg c8] at hf
      refine rw_iconst (v := 0) dX12_edge_48 (by decide) ?_
      exact t_jX12_edge_49 (ad := ad) (G := G)  v1 v2 0 q7.2 _ hr hf
    · rw [if_pos c8] at hf
      refine rw_iconst (v := 1) dX12_edge_44 (by decide) ?_
      refine rw_goto (tgt := 49) dX12_edge_45 (by decide) ?_
      exact t_jX12_edge_49 (ad := ad) (G := G)  v1 v2 1 q7.2 _ hr hf
def fX12_edge (a0 : Int32) (a1 : Int32) (σ : rS) : Option (Int32 × rS) := (fX12_isOld σ).bind fun q1 => if q1.1 = 0 then (fX12_in a0 0 ((q1.2.1 43 16) - 1) q1.2).bind fun q3 => if q3.1 = 0 then jX12_edge_27 a0 a1 1 q3.2 else jX12_edge_27 a0 a1 0 q3.2 else jX12_edge_56 q1.2
set_option maxHeartbeats 4000000 in
theorem cmX12_edge {G : rG} {ad : Nat → Nat} {a0 : Int32} {a1 : Int32} {σ : rS} {h : rH} {o : (Int32 × rS)} (hr : Rep G ad σ h) (hf : fX12_edge a0 a1 σ = some o) : rMT G mX12_edge (rm 2 0 0) [.ref (ad 43), .int a0, .int a1] h (qI G ad o) xN := by
  unfold fX12_edge at hf
  refine rw_met (by decide +kernel) rfl (Nat.le_of_ble_eq_true rfl) ?_
  show RW G _ _ _ _ 0 0 0 [(0, .ref (ad 43)), (1, .int a0), (2, .int a1)] [] h
  refine rw_aload_n dX12_edge_0 0 rfl rfl ?_
  obtain ⟨q1, hq1, hf⟩ := bnd hf
  refine kV_I (ad := ad) (As := []) (st := []) dX12_edge_1 calX12_isOld wm1724 wm1726 wm45 rfl rfl (rc_43 hr) (ci := 12) (by decide) rfl rfl (Nat.le_of_ble_eq_true rfl) ⟨⟨by decide, by decide⟩, by decide, by decide⟩ (cmX12_isOld hr hq1) (fun h hr => ?_)
  refine rw_if_ne (tgt := 56) dX12_edge_4 (by decide) (fun c2 => ?_) (fun c2 => ?_)
  · rw [if_neg c2] at hf
    refine rw_sub [] rfl ?_
    exact t_jX12_edge_56 (ad := ad) (G := G)  q1.2 _ hr hf
  · rw [if_pos c2] at hf
    refine rw_aload_n dX12_edge_7 0 rfl rfl ?_
    refine rw_iload_n dX12_edge_8 1 rfl rfl ?_
    refine rw_iconst (v := 0) dX12_edge_9 (by decide) ?_
    refine rw_aload_n dX12_edge_10 0 rfl rfl ?_
    refine sg_43_16 hr dX12_edge_11 fl1478 ?_
    refine rw_iconst (v := 1) dX12_edge_14 (by decide) ?_
    refine rw_isub dX12_edge_15 ?_
    obtain ⟨q3, hq3, hf⟩ := bnd hf
    refine kS_I (ad := ad) (As := [.int a0, .int 0, .int ((q1.2.1 43 16) - 1)]) (st := [.ref (ad 43)]) dX12_edge_16 calX12_in wm1612 wm1613 rfl rfl (Nat.le_of_ble_eq_true rfl) ⟨⟨by decide, by decide⟩, by decide, by decide⟩ (cmX12_in hr hq3) (fun h hr => ?_)
    refine rw_if_ne (tgt := 26) dX12_edge_19 (by decide) (fun c4 => ?_) (fun c4 => ?_)
    · rw [if_neg c4] at hf
      refine rw_iconst (v := 0) dX12_edge_26 (by decide) ?_
      exact t_jX12_edge_27 (ad := ad) (G := G)  a0 a1 0 q3.2 _ hr hf
    · rw [if_pos c4] at hf
      refine rw_iconst (v := 1) dX12_edge_22 (by decide) ?_
      refine rw_goto (tgt := 27) dX12_edge_23 (by decide) ?_
      exact t_jX12_edge_27 (ad := ad) (G := G)  a0 a1 1 q3.2 _ hr hf
def jX12_triangle_56   (σ : rS) : Option (Int32 × rS) := some (0, σ)
set_option maxHeartbeats 4000000 in
theorem t_jX12_triangle_56 {G : rG} {ad : Nat → Nat} {o : (Int32 × rS)}    (σ : rS) (h : rH) (hr : Rep G ad σ h) (hf : jX12_triangle_56   σ = some o) : RW G mX12_triangle (rm 2 0 0) (qI G ad o) xN 0 0 56 [] [] h := by
  unfold jX12_triangle_56 at hf
  refine rw_iconst (v := 0) dX12_triangle_56 (by decide) ?_
  replace hf := Option.some.inj hf
  subst hf
  exact rw_ireturn dX12_triangle_57 rfl ⟨rfl, hr⟩ (by decide) (by decide)
def jX12_triangle_49  (v1 : Int32) (v2 : Int32) (s0 : Int32) (σ : rS) : Option (Int32 × rS) := (fX12_fails s0 3 σ).bind fun q9 => if q9.1 = 0 then if inB ((3 * v1) + v2) 1680 then some ((q9.2.2.2.1 59 ((3 * v1) + v2).toNatClampNeg), q9.2) else none else jX12_triangle_56 q9.2
set_option maxHeartbeats 4000000 in
theorem t_jX12_triangle_49 {G : rG} {ad : Nat → Nat} {o : (Int32 × rS)}   (v1 : Int32) (v2 : Int32) (s0 : Int32) (σ : rS) (h : rH) (hr : Rep G ad σ h) (hf : jX12_triangle_49  v1 v2 s0 σ = some o) : RW G mX12_triangle (rm 2 0 0) (qI G ad o) xN 0 0 49 [(0, .ref (ad 43)), (1, .int v1), (2, .int v2)] [.int s0, .ref (ad 43)] h := by
  unfold jX12_triangle_49 at hf
  refine rw_iconst (v := 3) dX12_triangle_49 (by decide) ?_
  obtain ⟨q9, hq9, hf⟩ := bnd hf
  refine kV_I (ad := ad) (As := [.int s0, .int 3]) (st := []) dX12_triangle_50 calX12_fails wm1728 wm1730 wm46 rfl rfl (rc_43 hr) (ci := 12) (by decide) rfl rfl (Nat.le_of_ble_eq_true rfl) ⟨⟨by decide, by decide⟩, by decide, by decide⟩ (cmX12_fails hr hq9) (fun h hr => ?_)
  refine rw_if_eq (tgt := 58) dX12_triangle_53 (by decide) (fun c10 => ?_) (fun c10 => ?_)
  · rw [if_pos c10] at hf
    refine rw_aload_n dX12_triangle_58 0 rfl rfl ?_
    refine sg_43_24 hr dX12_triangle_59 fl1486 ?_
    refine rw_iconst (v := 3) dX12_triangle_62 (by decide) ?_
    refine rw_iload_n dX12_triangle_63 1 rfl rfl ?_
    refine rw_imul dX12_triangle_64 ?_
    refine rw_iload_n dX12_triangle_65 2 rfl rfl ?_
    refine rw_iadd dX12_triangle_66 ?_
    obtain ⟨hi11, hf⟩ := grd hf
    refine sl_59 hr dX12_triangle_67 (inB_in hi11) ?_
    replace hf := Option.some.inj hf
    subst hf
    exact rw_ireturn dX12_triangle_68 rfl ⟨rfl, hr⟩ (by decide) (by decide)
  · rw [if_neg c10] at hf
    refine rw_sub [] rfl ?_
    exact t_jX12_triangle_56 (ad := ad) (G := G)  q9.2 _ hr hf
def jX12_triangle_27  (v1 : Int32) (v2 : Int32) (s0 : Int32) (σ : rS) : Option (Int32 × rS) := (fX12_fails s0 2 σ).bind fun q5 => if q5.1 = 0 then (fX12_in v2 0 2 q5.2).bind fun q7 => if q7.1 = 0 then jX12_triangle_49 v1 v2 1 q7.2 else jX12_triangle_49 v1 v2 0 q7.2 else jX12_triangle_56 q5.2
set_option maxHeartbeats 4000000 in
theorem t_jX12_triangle_27 {G : rG} {ad : Nat → Nat} {o : (Int32 × rS)}   (v1 : Int32) (v2 : Int32) (s0 : Int32) (σ : rS) (h : rH) (hr : Rep G ad σ h) (hf : jX12_triangle_27  v1 v2 s0 σ = some o) : RW G mX12_triangle (rm 2 0 0) (qI G ad o) xN 0 0 27 [(0, .ref (ad 43)), (1, .int v1), (2, .int v2)] [.int s0, .ref (ad 43)] h := by
  unfold jX12_triangle_27 at hf
  refine rw_iconst (v := 2) dX12_triangle_27 (by decide) ?_
  obtain ⟨q5, hq5, hf⟩ := bnd hf
  refine kV_I (ad := ad) (As := [.int s0, .int 2]) (st := []) dX12_triangle_28 calX12_fails wm1728 wm1730 wm46 rfl rfl (rc_43 hr) (ci := 12) (by decide) rfl rfl (Nat.le_of_ble_eq_true rfl) ⟨⟨by decide, by decide⟩, by decide, by decide⟩ (cmX12_fails hr hq5) (fun h hr => ?_)
  refine rw_if_ne (tgt := 56) dX12_triangle_31 (by decide) (fun c6 => ?_) (fun c6 => ?_)
  · rw [if_neg c6] at hf
    refine rw_sub [] rfl ?_
    exact t_jX12_triangle_56 (ad := ad) (G := G)  q5.2 _ hr hf
  · rw [if_pos c6] at hf
    refine rw_aload_n dX12_triangle_34 0 rfl rfl ?_
    refine rw_iload_n dX12_triangle_35 2 rfl rfl ?_
    refine rw_iconst (v := 0) dX12_triangle_36 (by decide) ?_
    refine rw_iconst (v := 2) dX12_triangle_37 (by decide) ?_
    obtain ⟨q7, hq7, hf⟩ := bnd hf
    refine kS_I (ad := ad) (As := [.int v2, .int 0, .int 2]) (st := [.ref (ad 43)]) dX12_triangle_38 calX12_in wm1612 wm1613 rfl rfl (Nat.le_of_ble_eq_true rfl) ⟨⟨by decide, by decide⟩, by decide, by decide⟩ (cmX12_in hr hq7) (fun h hr => ?_)
    refine rw_if_ne (tgt := 48) dX12_triangle_41 (by decide) (fun c8 => ?_) (fun c8 => ?_)
    · rw [if_neg c8] at hf
      refine rw_iconst (v := 0) dX12_triangle_48 (by decide) ?_
      exact t_jX12_triangle_49 (ad := ad) (G := G)  v1 v2 0 q7.2 _ hr hf
    · rw [if_pos c8] at hf
      refine rw_iconst (v := 1) dX12_triangle_44 (by decide) ?_
      refine rw_goto (tgt := 49) dX12_triangle_45 (by decide) ?_
      exact t_jX12_triangle_49 (ad := ad) (G := G)  v1 v2 1 q7.2 _ hr hf
def fX12_triangle (a0 : Int32) (a1 : Int32) (σ : rS) : Option (Int32 × rS) := (fX12_isOld σ).bind fun q1 => if q1.1 = 0 then (fX12_in a0 0 ((q1.2.1 43 23) - 1) q1.2).bind fun q3 => if q3.1 = 0 then jX12_triangle_27 a0 a1 1 q3.2 else jX12_triangle_27 a0 a1 0 q3.2 else jX12_triangle_56 q1.2
set_option maxHeartbeats 4000000 in
theorem cmX12_triangle {G : rG} {ad : Nat → Nat} {a0 : Int32} {a1 : Int32} {σ : rS} {h : rH} {o : (Int32 × rS)} (hr : Rep G ad σ h) (hf : fX12_triangle a0 a1 σ = some o) : rMT G mX12_triangle (rm 2 0 0) [.ref (ad 43), .int a0, .int a1] h (qI G ad o) xN := by
  unfold fX12_triangle at hf
  refine rw_met (by decide +kernel) rfl (Nat.le_of_ble_eq_true rfl) ?_
  show RW G _ _ _ _ 0 0 0 [(0, .ref (ad 43)), (1, .int a0), (2, .int a1)] [] h
  refine rw_aload_n dX12_triangle_0 0 rfl rfl ?_
  obtain ⟨q1, hq1, hf⟩ := bnd hf
  refine kV_I (ad := ad) (As := []) (st := []) dX12_triangle_1 calX12_isOld wm1724 wm1726 wm45 rfl rfl (rc_43 hr) (ci := 12) (by decide) rfl rfl (Nat.le_of_ble_eq_true rfl) ⟨⟨by decide, by decide⟩, by decide, by decide⟩ (cmX12_isOld hr hq1) (fun h hr => ?_)
  refine rw_if_ne (tgt := 56) dX12_triangle_4 (by decide) (fun c2 => ?_) (fun c2 => ?_)
  · rw [if_neg c2] at hf
    refine rw_sub [] rfl ?_
    exact t_jX12_triangle_56 (ad := ad) (G := G)  q1.2 _ hr hf
  · rw [if_pos c2] at hf
    refine rw_aload_n dX12_triangle_7 0 rfl rfl ?_
    refine rw_iload_n dX12_triangle_8 1 rfl rfl ?_
    refine rw_iconst (v := 0) dX12_triangle_9 (by decide) ?_
    refine rw_aload_n dX12_triangle_10 0 rfl rfl ?_
    refine sg_43_23 hr dX12_triangle_11 fl1485 ?_
    refine rw_iconst (v := 1) dX12_triangle_14 (by decide) ?_
    refine rw_isub dX12_triangle_15 ?_
    obtain ⟨q3, hq3, hf⟩ := bnd hf
    refine kS_I (ad := ad) (As := [.int a0, .int 0, .int ((q1.2.1 43 23) - 1)]) (st := [.ref (ad 43)]) dX12_triangle_16 calX12_in wm1612 wm1613 rfl rfl (Nat.le_of_ble_eq_true rfl) ⟨⟨by decide, by decide⟩, by decide, by decide⟩ (cmX12_in hr hq3) (fun h hr => ?_)
    refine rw_if_ne (tgt := 26) dX12_triangle_19 (by decide) (fun c4 => ?_) (fun c4 => ?_)
    · rw [if_neg c4] at hf
      refine rw_iconst (v := 0) dX12_triangle_26 (by decide) ?_
      exact t_jX12_triangle_27 (ad := ad) (G := G)  a0 a1 0 q3.2 _ hr hf
    · rw [if_pos c4] at hf
      refine rw_iconst (v := 1) dX12_triangle_22 (by decide) ?_
      refine rw_goto (tgt := 27) dX12_triangle_23 (by decide) ?_
      exact t_jX12_triangle_27 (ad := ad) (G := G)  a0 a1 1 q3.2 _ hr hf
def jX12_matched_72 (k37 : Int32 → Int32 → Int32 → Int32 → Int32 → rS → Option (Int32 × rS)) (v2 : Int32) (v3 : Int32) (v4 : Int32) (v6 : Int32) (s0 : Int32) (σ : rS) : Option (Int32 × rS) := vI (v6 + 1) fun x9 => k37 v2 v3 v4 s0 x9 σ
set_option maxHeartbeats 4000000 in
theorem t_jX12_matched_72 {G : rG} {ad : Nat → Nat} {o : (Int32 × rS)} (k37 : Int32 → Int32 → Int32 → Int32 → Int32 → rS → Option (Int32 × rS)) (hk37 : ∀ (v2 : Int32) (v3 : Int32) (v4 : Int32) (v5 : Int32) (v6 : Int32) (σ : rS) (h : rH), Rep G ad σ h → k37 v2 v3 v4 v5 v6 σ = some o → RW G mX12_matched (rm 0 0 0) (qI G ad o) xN 0 0 37 [(0, .ref (ad 43)), (2, .int v2), (3, .int v3), (4, .int v4), (5, .int v5), (6, .int v6)] [] h) (v2 : Int32) (v3 : Int32) (v4 : Int32) (v6 : Int32) (s0 : Int32) (σ : rS) (h : rH) (hr : Rep G ad σ h) (hf : jX12_matched_72 k37 v2 v3 v4 v6 s0 σ = some o) : RW G mX12_matched (rm 0 0 0) (qI G ad o) xN 0 0 72 [(0, .ref (ad 43)), (2, .int v2), (3, .int v3), (4, .int v4), (6, .int v6)] [.int s0] h := by
  unfold jX12_matched_72 at hf
  refine rw_istore (lv2 := [(5, .int s0), (0, .ref (ad 43)), (2, .int v2), (3, .int v3), (4, .int v4), (6, .int v6)]) dX12_matched_72 (by decide) rfl ?_
  refine rw_iinc (v := v6 + 1) (lv2 := [(6, .int (v6 + 1)), (5, .int s0), (0, .ref (ad 43)), (2, .int v2), (3, .int v3), (4, .int v4)]) dX12_matched_74 5 rfl rfl (by decide) rfl ?_
  refine nmL hf (fun x9 hf => ?_)
  refine rw_goto (tgt := 37) dX12_matched_77 (by decide) ?_
  refine rw_sub [2, 3, 4, 5, 1, 0] rfl ?_
  exact hk37 v2 v3 v4 s0 x9 σ _ hr hf
def lX12_matched_37  : Nat → Int32 → Int32 → Int32 → Int32 → Int32 → rS → Option (Int32 × rS)
  | 0, _, _, _, _, _, _ => none
  | n + 1, v2, v3, v4, v5, v6, σ => if inB v2 16 then (if (σ.2.2.1 47 v2.toNatClampNeg) ≤ v6 then some (v5, σ) else if inB ((12 * v4) + v6) 1440 then (if (σ.2.2.1 57 ((12 * v4) + v6).toNatClampNeg) = v3 then jX12_matched_72 (lX12_matched_37 n) v2 v3 v4 v6 v6 σ else jX12_matched_72 (lX12_matched_37 n) v2 v3 v4 v6 v5 σ) else none) else none
set_option maxHeartbeats 4000000 in
theorem t_lX12_matched_37 {G : rG} {ad : Nat → Nat} {o : (Int32 × rS)}   : ∀ (n : Nat) (v2 : Int32) (v3 : Int32) (v4 : Int32) (v5 : Int32) (v6 : Int32) (σ : rS) (h : rH), Rep G ad σ h → lX12_matched_37  n v2 v3 v4 v5 v6 σ = some o → RW G mX12_matched (rm 0 0 0) (qI G ad o) xN 0 0 37 [(0, .ref (ad 43)), (2, .int v2), (3, .int v3), (4, .int v4), (5, .int v5), (6, .int v6)] [] h := by
  intro n
  induction n with
  | zero =>
    intro v2 v3 v4 v5 v6 σ h hr hf
    rw [lX12_matched_37] at hf
    cases hf
  | succ n ih =>
    intro v2 v3 v4 v5 v6 σ h hr hf
    rw [lX12_matched_37] at hf
    refine rw_iload dX12_matched_37 5 rfl ?_
    refine rw_aload_n dX12_matched_39 0 rfl rfl ?_
    refine sg_43_6 hr dX12_matched_40 fl1468 ?_
    refine rw_iload_n dX12_matched_43 1 rfl rfl ?_
    obtain ⟨hi5, hf⟩ := grd hf
    refine sl_47 hr dX12_matched_44 (inB_in hi5) ?_
    refine rw_icmp_ge (tgt := 80) dX12_matched_45 (by decide) (fun c6 => ?_) (fun c6 => ?_)
    · rw [if_pos c6] at hf
      refine rw_iload dX12_matched_80 4 rfl ?_
      replace hf := Option.some.inj hf
      subst hf
      exact rw_ireturn dX12_matched_82 rfl ⟨rfl, hr⟩ (by decide) (by decide)
    · rw [if_neg c6] at hf
      refine rw_aload_n dX12_matched_48 0 rfl rfl ?_
      refine sg_43_21 hr dX12_matched_49 fl1483 ?_
      refine rw_bipush (v := 12) dX12_matched_52 (by decide) ?_
      refine rw_iload dX12_matched_54 3 rfl ?_
      refine rw_imul dX12_matched_56 ?_
      refine rw_iload dX12_matched_57 5 rfl ?_
      refine rw_iadd dX12_matched_59 ?_
      obtain ⟨hi7, hf⟩ := grd hf
      refine sl_57 hr dX12_matched_60 (inB_in hi7) ?_
      refine rw_iload_n dX12_matched_61 2 rfl rfl ?_
      refine rw_icmp_ne (tgt := 70) dX12_matched_62 (by decide) (fun c8 => ?_) (fun c8 => ?_)
      · rw [if_neg c8] at hf
        refine rw_iload dX12_matched_70 4 rfl ?_
        refine rw_sub [0, 1, 2, 3, 5] rfl ?_
        exact t_jX12_matched_72 (ad := ad) (G := G) (lX12_matched_37 n) ih v2 v3 v4 v6 v5 σ _ hr hf
      · rw [if_pos c8] at hf
        refine rw_iload dX12_matched_65 5 rfl ?_
        refine rw_goto (tgt := 72) dX12_matched_67 (by decide) ?_
        refine rw_sub [0, 1, 2, 3, 5] rfl ?_
        exact t_jX12_matched_72 (ad := ad) (G := G) (lX12_matched_37 n) ih v2 v3 v4 v6 v6 σ _ hr hf
def fX12_matched (a0 : Int32) (a1 : Int32) (a2 : Int32) (σ : rS) : Option (Int32 × rS) := if inB ((16 * a0) + a1) 256 then vI (σ.2.2.1 56 ((16 * a0) + a1).toNatClampNeg) fun x2 => (if a1 ≤ a0 then lX12_matched_37 1000 a1 a2 x2 ((-1)) 0 σ else if inB ((12 * x2) + a2) 1440 then some ((σ.2.2.1 57 ((12 * x2) + a2).toNatClampNeg), σ) else none) else none
set_option maxHeartbeats 4000000 in
theorem cmX12_matched {G : rG} {ad : Nat → Nat} {a0 : Int32} {a1 : Int32} {a2 : Int32} {σ : rS} {h : rH} {o : (Int32 × rS)} (hr : Rep G ad σ h) (hf : fX12_matched a0 a1 a2 σ = some o) : rMT G mX12_matched (rm 0 0 0) [.ref (ad 43), .int a0, .int a1, .int a2] h (qI G ad o) xN := by
  unfold fX12_matched at hf
  refine rw_met (by decide +kernel) rfl (Nat.le_of_ble_eq_true rfl) ?_
  show RW G _ _ _ _ 0 0 0 [(0, .ref (ad 43)), (1, .int a0), (2, .int a1), (3, .int a2)] [] h
  refine rw_aload_n dX12_matched_0 0 rfl rfl ?_
  refine sg_43_20 hr dX12_matched_1 fl1482 ?_
  refine rw_bipush (v := 16) dX12_matched_4 (by decide) ?_
  refine rw_iload_n dX12_matched_6 1 rfl rfl ?_
  refine rw_imul dX12_matched_7 ?_
  refine rw_iload_n dX12_matched_8 2 rfl rfl ?_
  refine rw_iadd dX12_matched_9 ?_
  obtain ⟨hi1, hf⟩ := grd hf
  refine sl_56 hr dX12_matched_10 (inB_in hi1) ?_
  refine nmI hf (fun x2 hf => ?_)
  refine rw_istore (lv2 := [(4, .int x2), (0, .ref (ad 43)), (1, .int a0), (2, .int a1), (3, .int a2)]) dX12_matched_11 (by decide) rfl ?_
  refine rw_iload_n dX12_matched_13 2 rfl rfl ?_
  refine rw_iload_n dX12_matched_14 3 rfl rfl ?_
  refine rw_icmp_ge (tgt := 31) dX12_matched_15 (by decide) (fun c3 => ?_) (fun c3 => ?_)
  · rw [if_pos c3] at hf
    refine rw_iconst (v := (-1)) dX12_matched_31 (by decide) ?_
    refine rw_istore (lv2 := [(5, .int ((-1))), (4, .int x2), (0, .ref (ad 43)), (1, .int a0), (2, .int a1), (3, .int a2)]) dX12_matched_32 (by decide) rfl ?_
    refine rw_iconst (v := 0) dX12_matched_34 (by decide) ?_
    refine rw_istore (lv2 := [(6, .int 0), (5, .int ((-1))), (4, .int x2), (0, .ref (ad 43)), (1, .int a0), (2, .int a1), (3, .int a2)]) dX12_matched_35 (by decide) rfl ?_
    refine rw_sub [3, 5, 6, 2, 1, 0] rfl ?_
    exact t_lX12_matched_37 (ad := ad) (G := G)  1000 a1 a2 x2 ((-1)) 0 σ _ hr hf
  · rw [if_neg c3] at hf
    refine rw_aload_n dX12_matched_18 1 rfl rfl ?_
    refine sg_43_21 hr dX12_matched_19 fl1483 ?_
    refine rw_bipush (v := 12) dX12_matched_22 (by decide) ?_
    refine rw_iload dX12_matched_24 0 rfl ?_
    refine rw_imul dX12_matched_26 ?_
    refine rw_iload_n dX12_matched_27 4 rfl rfl ?_
    refine rw_iadd dX12_matched_28 ?_
    obtain ⟨hi4, hf⟩ := grd hf
    refine sl_57 hr dX12_matched_29 (inB_in hi4) ?_
    replace hf := Option.some.inj hf
    subst hf
    exact rw_ireturn dX12_matched_30 rfl ⟨rfl, hr⟩ (by decide) (by decide)
def jX12_match_74   (σ : rS) : Option (Int32 × rS) := some (0, σ)
set_option maxHeartbeats 4000000 in
theorem t_jX12_match_74 {G : rG} {ad : Nat → Nat} {o : (Int32 × rS)}    (σ : rS) (h : rH) (hr : Rep G ad σ h) (hf : jX12_match_74   σ = some o) : RW G mX12_match (rm 2 0 0) (qI G ad o) xN 0 0 74 [] [] h := by
  unfold jX12_match_74 at hf
  refine rw_iconst (v := 0) dX12_match_74 (by decide) ?_
  replace hf := Option.some.inj hf
  subst hf
  exact rw_ireturn dX12_match_75 rfl ⟨rfl, hr⟩ (by decide) (by decide)
def jX12_match_67  (v1 : Int32) (v2 : Int32) (v3 : Int32) (s0 : Int32) (σ : rS) : Option (Int32 × rS) := (fX12_fails s0 3 σ).bind fun q14 => if q14.1 = 0 then (fX12_matched v1 v2 v3 q14.2).bind fun q16 => some (q16.1, q16.2) else jX12_match_74 q14.2
set_option maxHeartbeats 4000000 in
theorem t_jX12_match_67 {G : rG} {ad : Nat → Nat} {o : (Int32 × rS)}   (v1 : Int32) (v2 : Int32) (v3 : Int32) (s0 : Int32) (σ : rS) (h : rH) (hr : Rep G ad σ h) (hf : jX12_match_67  v1 v2 v3 s0 σ = some o) : RW G mX12_match (rm 2 0 0) (qI G ad o) xN 0 0 67 [(0, .ref (ad 43)), (1, .int v1), (2, .int v2), (3, .int v3)] [.int s0, .ref (ad 43)] h := by
  unfold jX12_match_67 at hf
  refine rw_iconst (v := 3) dX12_match_67 (by decide) ?_
  obtain ⟨q14, hq14, hf⟩ := bnd hf
  refine kV_I (ad := ad) (As := [.int s0, .int 3]) (st := []) dX12_match_68 calX12_fails wm1728 wm1730 wm46 rfl rfl (rc_43 hr) (ci := 12) (by decide) rfl rfl (Nat.le_of_ble_eq_true rfl) ⟨⟨by decide, by decide⟩, by decide, by decide⟩ (cmX12_fails hr hq14) (fun h hr => ?_)
  refine rw_if_eq (tgt := 76) dX12_match_71 (by decide) (fun c15 => ?_) (fun c15 => ?_)
  · rw [if_pos c15] at hf
    refine rw_aload_n dX12_match_76 0 rfl rfl ?_
    refine rw_iload_n dX12_match_77 1 rfl rfl ?_
    refine rw_iload_n dX12_match_78 2 rfl rfl ?_
    refine rw_iload_n dX12_match_79 3 rfl rfl ?_
    obtain ⟨q16, hq16, hf⟩ := bnd hf
    refine kV_I (ad := ad) (As := [.int v1, .int v2, .int v3]) (st := []) dX12_match_80 calX12_matched wm1744 wm1746 wm47 rfl rfl (rc_43 hr) (ci := 12) (by decide) rfl rfl (Nat.le_of_ble_eq_true rfl) ⟨⟨by decide, by decide⟩, by decide, by decide⟩ (cmX12_matched hr hq16) (fun h hr => ?_)
    replace hf := Option.some.inj hf
    subst hf
    exact rw_ireturn dX12_match_83 rfl ⟨rfl, hr⟩ (by decide) (by decide)
  · rw [if_neg c15] at hf
    refine rw_sub [] rfl ?_
    exact t_jX12_match_74 (ad := ad) (G := G)  q14.2 _ hr hf
def jX12_match_45  (v1 : Int32) (v2 : Int32) (v3 : Int32) (s0 : Int32) (σ : rS) : Option (Int32 × rS) := (fX12_fails s0 2 σ).bind fun q10 => if q10.1 = 0 then (fX12_areNeighbours v1 v2 q10.2).bind fun q12 => if q12.1 = 0 then jX12_match_67 v1 v2 v3 1 q12.2 else jX12_match_67 v1 v2 v3 0 q12.2 else jX12_match_74 q10.2
set_option maxHeartbeats 4000000 in
theorem t_jX12_match_45 {G : rG} {ad : Nat → Nat} {o : (Int32 × rS)}   (v1 : Int32) (v2 : Int32) (v3 : Int32) (s0 : Int32) (σ : rS) (h : rH) (hr : Rep G ad σ h) (hf : jX12_match_45  v1 v2 v3 s0 σ = some o) : RW G mX12_match (rm 2 0 0) (qI G ad o) xN 0 0 45 [(0, .ref (ad 43)), (1, .int v1), (2, .int v2), (3, .int v3)] [.int s0, .ref (ad 43)] h := by
  unfold jX12_match_45 at hf
  refine rw_iconst (v := 2) dX12_match_45 (by decide) ?_
  obtain ⟨q10, hq10, hf⟩ := bnd hf
  refine kV_I (ad := ad) (As := [.int s0, .int 2]) (st := []) dX12_match_46 calX12_fails wm1728 wm1730 wm46 rfl rfl (rc_43 hr) (ci := 12) (by decide) rfl rfl (Nat.le_of_ble_eq_true rfl) ⟨⟨by decide, by decide⟩, by decide, by decide⟩ (cmX12_fails hr hq10) (fun h hr => ?_)
  refine rw_if_ne (tgt := 74) dX12_match_49 (by decide) (fun c11 => ?_) (fun c11 => ?_)
  · rw [if_neg c11] at hf
    refine rw_sub [] rfl ?_
    exact t_jX12_match_74 (ad := ad) (G := G)  q10.2 _ hr hf
  · rw [if_pos c11] at hf
    refine rw_aload_n dX12_match_52 0 rfl rfl ?_
    refine rw_aload_n dX12_match_53 0 rfl rfl ?_
    refine rw_iload_n dX12_match_54 1 rfl rfl ?_
    refine rw_iload_n dX12_match_55 2 rfl rfl ?_
    obtain ⟨q12, hq12, hf⟩ := bnd hf
    refine kV_I (ad := ad) (As := [.int v1, .int v2]) (st := [.ref (ad 43)]) dX12_match_56 calX12_areNeighbours wm1692 wm1694 wm39 rfl rfl (rc_43 hr) (ci := 12) (by decide) rfl rfl (Nat.le_of_ble_eq_true rfl) ⟨⟨by decide, by decide⟩, by decide, by decide⟩ (cmX12_areNeighbours hr hq12) (fun h hr => ?_)
    refine rw_if_ne (tgt := 66) dX12_match_59 (by decide) (fun c13 => ?_) (fun c13 => ?_)
    · rw [if_neg c13] at hf
      refine rw_iconst (v := 0) dX12_match_66 (by decide) ?_
      exact t_jX12_match_67 (ad := ad) (G := G)  v1 v2 v3 0 q12.2 _ hr hf
    · rw [if_pos c13] at hf
      refine rw_iconst (v := 1) dX12_match_62 (by decide) ?_
      refine rw_goto (tgt := 67) dX12_match_63 (by decide) ?_
      exact t_jX12_match_67 (ad := ad) (G := G)  v1 v2 v3 1 q12.2 _ hr hf
def jX12_match_40  (v1 : Int32) (v2 : Int32) (v3 : Int32) (σ : rS) : Option (Int32 × rS) := jX12_match_45 v1 v2 v3 1 σ
set_option maxHeartbeats 4000000 in
theorem t_jX12_match_40 {G : rG} {ad : Nat → Nat} {o : (Int32 × rS)}   (v1 : Int32) (v2 : Int32) (v3 : Int32) (σ : rS) (h : rH) (hr : Rep G ad σ h) (hf : jX12_match_40  v1 v2 v3 σ = some o) : RW G mX12_match (rm 2 0 0) (qI G ad o) xN 0 0 40 [(0, .ref (ad 43)), (1, .int v1), (2, .int v2), (3, .int v3)] [.ref (ad 43)] h := by
  unfold jX12_match_40 at hf
  refine rw_iconst (v := 1) dX12_match_40 (by decide) ?_
  refine rw_goto (tgt := 45) dX12_match_41 (by decide) ?_
  exact t_jX12_match_45 (ad := ad) (G := G)  v1 v2 v3 1 σ _ hr hf
def fX12_match (a0 : Int32) (a1 : Int32) (a2 : Int32) (σ : rS) : Option (Int32 × rS) := (fX12_isOld σ).bind fun q1 => if q1.1 = 0 then (fX12_isBoring a0 q1.2).bind fun q3 => if q3.1 = 0 then jX12_match_40 a0 a1 a2 q3.2 else (fX12_isBoring a1 q3.2).bind fun q5 => if q5.1 = 0 then jX12_match_40 a0 a1 a2 q5.2 else if inB a0 16 then (fX12_in a2 0 ((q5.2.2.2.1 47 a0.toNatClampNeg) - 1) q5.2).bind fun q8 => (if q8.1 = 0 then jX12_match_40 a0 a1 a2 q8.2 else jX12_match_45 a0 a1 a2 0 q8.2) else none else jX12_match_74 q1.2
set_option maxHeartbeats 4000000 in
theorem cmX12_match {G : rG} {ad : Nat → Nat} {a0 : Int32} {a1 : Int32} {a2 : Int32} {σ : rS} {h : rH} {o : (Int32 × rS)} (hr : Rep G ad σ h) (hf : fX12_match a0 a1 a2 σ = some o) : rMT G mX12_match (rm 2 0 0) [.ref (ad 43), .int a0, .int a1, .int a2] h (qI G ad o) xN := by
  unfold fX12_match at hf
  refine rw_met (by decide +kernel) rfl (Nat.le_of_ble_eq_true rfl) ?_
  show RW G _ _ _ _ 0 0 0 [(0, .ref (ad 43)), (1, .int a0), (2, .int a1), (3, .int a2)] [] h
  refine rw_aload_n dX12_match_0 0 rfl rfl ?_
  obtain ⟨q1, hq1, hf⟩ := bnd hf
  refine kV_I (ad := ad) (As := []) (st := []) dX12_match_1 calX12_isOld wm1724 wm1726 wm45 rfl rfl (rc_43 hr) (ci := 12) (by decide) rfl rfl (Nat.le_of_ble_eq_true rfl) ⟨⟨by decide, by decide⟩, by decide, by decide⟩ (cmX12_isOld hr hq1) (fun h hr => ?_)
  refine rw_if_ne (tgt := 74) dX12_match_4 (by decide) (fun c2 => ?_) (fun c2 => ?_)
  · rw [if_neg c2] at hf
    refine rw_sub [] rfl ?_
    exact t_jX12_match_74 (ad := ad) (G := G)  q1.2 _ hr hf
  · rw [if_pos c2] at hf
    refine rw_aload_n dX12_match_7 0 rfl rfl ?_
    refine rw_aload_n dX12_match_8 0 rfl rfl ?_
    refine rw_iload_n dX12_match_9 1 rfl rfl ?_
    obtain ⟨q3, hq3, hf⟩ := bnd hf
    refine kV_I (ad := ad) (As := [.int a0]) (st := [.ref (ad 43)]) dX12_match_10 calX12_isBoring wm1625 wm1627 wm32 rfl rfl (rc_43 hr) (ci := 12) (by decide) rfl rfl (Nat.le_of_ble_eq_true rfl) ⟨⟨by decide, by decide⟩, by decide, by decide⟩ (cmX12_isBoring hr hq3) (fun h hr => ?_)
    refine rw_if_eq (tgt := 40) dX12_match_13 (by decide) (fun c4 => ?_) (fun c4 => ?_)
    · rw [if_pos c4] at hf
      exact t_jX12_match_40 (ad := ad) (G := G)  a0 a1 a2 q3.2 _ hr hf
    · rw [if_neg c4] at hf
      refine rw_aload_n dX12_match_16 0 rfl rfl ?_
      refine rw_iload_n dX12_match_17 2 rfl rfl ?_
      obtain ⟨q5, hq5, hf⟩ := bnd hf
      refine kV_I (ad := ad) (As := [.int a1]) (st := [.ref (ad 43)]) dX12_match_18 calX12_isBoring wm1625 wm1627 wm32 rfl rfl (rc_43 hr) (ci := 12) (by decide) rfl rfl (Nat.le_of_ble_eq_true rfl) ⟨⟨by decide, by decide⟩, by decide, by decide⟩ (cmX12_isBoring hr hq5) (fun h hr => ?_)
      refine rw_if_eq (tgt := 40) dX12_match_21 (by decide) (fun c6 => ?_) (fun c6 => ?_)
      · rw [if_pos c6] at hf
        exact t_jX12_match_40 (ad := ad) (G := G)  a0 a1 a2 q5.2 _ hr hf
      · rw [if_neg c6] at hf
        refine rw_iload_n dX12_match_24 3 rfl rfl ?_
        refine rw_iconst (v := 0) dX12_match_25 (by decide) ?_
        refine rw_aload_n dX12_match_26 0 rfl rfl ?_
        refine sg_43_6 hr dX12_match_27 fl1468 ?_
        refine rw_iload_n dX12_match_30 1 rfl rfl ?_
        obtain ⟨hi7, hf⟩ := grd hf
        refine sl_47 hr dX12_match_31 (inB_in hi7) ?_
        refine rw_iconst (v := 1) dX12_match_32 (by decide) ?_
        refine rw_isub dX12_match_33 ?_
        obtain ⟨q8, hq8, hf⟩ := bnd hf
        refine kS_I (ad := ad) (As := [.int a2, .int 0, .int ((q5.2.2.2.1 47 a0.toNatClampNeg) - 1)]) (st := [.ref (ad 43)]) dX12_match_34 calX12_in wm1612 wm1613 rfl rfl (Nat.le_of_ble_eq_true rfl) ⟨⟨by decide, by decide⟩, by decide, by decide⟩ (cmX12_in hr hq8) (fun h hr => ?_)
        refine rw_if_ne (tgt := 44) dX12_match_37 (by decide) (fun c9 => ?_) (fun c9 => ?_)
        · rw [if_neg c9] at hf
          refine rw_iconst (v := 0) dX12_match_44 (by decide) ?_
          exact t_jX12_match_45 (ad := ad) (G := G)  a0 a1 a2 0 q8.2 _ hr hf
        · rw [if_pos c9] at hf
          exact t_jX12_match_40 (ad := ad) (G := G)  a0 a1 a2 q8.2 _ hr hf
def jX12_sum_58   (σ : rS) : Option (Int32 × rS) := some (0, σ)
set_option maxHeartbeats 4000000 in
theorem t_jX12_sum_58 {G : rG} {ad : Nat → Nat} {o : (Int32 × rS)}    (σ : rS) (h : rH) (hr : Rep G ad σ h) (hf : jX12_sum_58   σ = some o) : RW G mX12_sum (rm 2 0 0) (qI G ad o) xN 0 0 58 [] [] h := by
  unfold jX12_sum_58 at hf
  refine rw_iconst (v := 0) dX12_sum_58 (by decide) ?_
  replace hf := Option.some.inj hf
  subst hf
  exact rw_ireturn dX12_sum_59 rfl ⟨rfl, hr⟩ (by decide) (by decide)
def jX12_sum_51  (v1 : Int32) (v2 : Int32) (s0 : Int32) (σ : rS) : Option (Int32 × rS) := (fX12_fails s0 3 σ).bind fun q11 => if q11.1 = 0 then if inB ((16 * v1) + v2) 256 then if inB (q11.2.2.2.1 56 ((16 * v1) + v2).toNatClampNeg) 120 then some ((q11.2.2.2.1 58 (q11.2.2.2.1 56 ((16 * v1) + v2).toNatClampNeg).toNatClampNeg), q11.2) else none else none else jX12_sum_58 q11.2
set_option maxHeartbeats 4000000 in
theorem t_jX12_sum_51 {G : rG} {ad : Nat → Nat} {o : (Int32 × rS)}   (v1 : Int32) (v2 : Int32) (s0 : Int32) (σ : rS) (h : rH) (hr : Rep G ad σ h) (hf : jX12_sum_51  v1 v2 s0 σ = some o) : RW G mX12_sum (rm 2 0 0) (qI G ad o) xN 0 0 51 [(0, .ref (ad 43)), (1, .int v1), (2, .int v2)] [.int s0, .ref (ad 43)] h := by
  unfold jX12_sum_51 at hf
  refine rw_iconst (v := 3) dX12_sum_51 (by decide) ?_
  obtain ⟨q11, hq11, hf⟩ := bnd hf
  refine kV_I (ad := ad) (As := [.int s0, .int 3]) (st := []) dX12_sum_52 calX12_fails wm1728 wm1730 wm46 rfl rfl (rc_43 hr) (ci := 12) (by decide) rfl rfl (Nat.le_of_ble_eq_true rfl) ⟨⟨by decide, by decide⟩, by decide, by decide⟩ (cmX12_fails hr hq11) (fun h hr => ?_)
  refine rw_if_eq (tgt := 60) dX12_sum_55 (by decide) (fun c12 => ?_) (fun c12 => ?_)
  · rw [if_pos c12] at hf
    refine rw_aload_n dX12_sum_60 0 rfl rfl ?_
    refine sg_43_22 hr dX12_sum_61 fl1484 ?_
    refine rw_aload_n dX12_sum_64 0 rfl rfl ?_
    refine sg_43_20 hr dX12_sum_65 fl1482 ?_
    refine rw_bipush (v := 16) dX12_sum_68 (by decide) ?_
    refine rw_iload_n dX12_sum_70 1 rfl rfl ?_
    refine rw_imul dX12_sum_71 ?_
    refine rw_iload_n dX12_sum_72 2 rfl rfl ?_
    refine rw_iadd dX12_sum_73 ?_
    obtain ⟨hi13, hf⟩ := grd hf
    refine sl_56 hr dX12_sum_74 (inB_in hi13) ?_
    obtain ⟨hi14, hf⟩ := grd hf
    refine sl_58 hr dX12_sum_75 (inB_in hi14) ?_
    replace hf := Option.some.inj hf
    subst hf
    exact rw_ireturn dX12_sum_76 rfl ⟨rfl, hr⟩ (by decide) (by decide)
  · rw [if_neg c12] at hf
    refine rw_sub [] rfl ?_
    exact t_jX12_sum_58 (ad := ad) (G := G)  q11.2 _ hr hf
def jX12_sum_29  (v1 : Int32) (v2 : Int32) (s0 : Int32) (σ : rS) : Option (Int32 × rS) := (fX12_fails s0 2 σ).bind fun q7 => if q7.1 = 0 then (fX12_areNeighbours v1 v2 q7.2).bind fun q9 => if q9.1 = 0 then jX12_sum_51 v1 v2 1 q9.2 else jX12_sum_51 v1 v2 0 q9.2 else jX12_sum_58 q7.2
set_option maxHeartbeats 4000000 in
theorem t_jX12_sum_29 {G : rG} {ad : Nat → Nat} {o : (Int32 × rS)}   (v1 : Int32) (v2 : Int32) (s0 : Int32) (σ : rS) (h : rH) (hr : Rep G ad σ h) (hf : jX12_sum_29  v1 v2 s0 σ = some o) : RW G mX12_sum (rm 2 0 0) (qI G ad o) xN 0 0 29 [(0, .ref (ad 43)), (1, .int v1), (2, .int v2)] [.int s0, .ref (ad 43)] h := by
  unfold jX12_sum_29 at hf
  refine rw_iconst (v := 2) dX12_sum_29 (by decide) ?_
  obtain ⟨q7, hq7, hf⟩ := bnd hf
  refine kV_I (ad := ad) (As := [.int s0, .int 2]) (st := []) dX12_sum_30 calX12_fails wm1728 wm1730 wm46 rfl rfl (rc_43 hr) (ci := 12) (by decide) rfl rfl (Nat.le_of_ble_eq_true rfl) ⟨⟨by decide, by decide⟩, by decide, by decide⟩ (cmX12_fails hr hq7) (fun h hr => ?_)
  refine rw_if_ne (tgt := 58) dX12_sum_33 (by decide) (fun c8 => ?_) (fun c8 => ?_)
  · rw [if_neg c8] at hf
    refine rw_sub [] rfl ?_
    exact t_jX12_sum_58 (ad := ad) (G := G)  q7.2 _ hr hf
  · rw [if_pos c8] at hf
    refine rw_aload_n dX12_sum_36 0 rfl rfl ?_
    refine rw_aload_n dX12_sum_37 0 rfl rfl ?_
    refine rw_iload_n dX12_sum_38 1 rfl rfl ?_
    refine rw_iload_n dX12_sum_39 2 rfl rfl ?_
    obtain ⟨q9, hq9, hf⟩ := bnd hf
    refine kV_I (ad := ad) (As := [.int v1, .int v2]) (st := [.ref (ad 43)]) dX12_sum_40 calX12_areNeighbours wm1692 wm1694 wm39 rfl rfl (rc_43 hr) (ci := 12) (by decide) rfl rfl (Nat.le_of_ble_eq_true rfl) ⟨⟨by decide, by decide⟩, by decide, by decide⟩ (cmX12_areNeighbours hr hq9) (fun h hr => ?_)
    refine rw_if_ne (tgt := 50) dX12_sum_43 (by decide) (fun c10 => ?_) (fun c10 => ?_)
    · rw [if_neg c10] at hf
      refine rw_iconst (v := 0) dX12_sum_50 (by decide) ?_
      exact t_jX12_sum_51 (ad := ad) (G := G)  v1 v2 0 q9.2 _ hr hf
    · rw [if_pos c10] at hf
      refine rw_iconst (v := 1) dX12_sum_46 (by decide) ?_
      refine rw_goto (tgt := 51) dX12_sum_47 (by decide) ?_
      exact t_jX12_sum_51 (ad := ad) (G := G)  v1 v2 1 q9.2 _ hr hf
def jX12_sum_24  (v1 : Int32) (v2 : Int32) (σ : rS) : Option (Int32 × rS) := jX12_sum_29 v1 v2 1 σ
set_option maxHeartbeats 4000000 in
theorem t_jX12_sum_24 {G : rG} {ad : Nat → Nat} {o : (Int32 × rS)}   (v1 : Int32) (v2 : Int32) (σ : rS) (h : rH) (hr : Rep G ad σ h) (hf : jX12_sum_24  v1 v2 σ = some o) : RW G mX12_sum (rm 2 0 0) (qI G ad o) xN 0 0 24 [(0, .ref (ad 43)), (1, .int v1), (2, .int v2)] [.ref (ad 43)] h := by
  unfold jX12_sum_24 at hf
  refine rw_iconst (v := 1) dX12_sum_24 (by decide) ?_
  refine rw_goto (tgt := 29) dX12_sum_25 (by decide) ?_
  exact t_jX12_sum_29 (ad := ad) (G := G)  v1 v2 1 σ _ hr hf
def fX12_sum (a0 : Int32) (a1 : Int32) (σ : rS) : Option (Int32 × rS) := (fX12_isOld σ).bind fun q1 => if q1.1 = 0 then (fX12_isBoring a0 q1.2).bind fun q3 => if q3.1 = 0 then jX12_sum_24 a0 a1 q3.2 else (fX12_isBoring a1 q3.2).bind fun q5 => if q5.1 = 0 then jX12_sum_24 a0 a1 q5.2 else jX12_sum_29 a0 a1 0 q5.2 else jX12_sum_58 q1.2
set_option maxHeartbeats 4000000 in
theorem cmX12_sum {G : rG} {ad : Nat → Nat} {a0 : Int32} {a1 : Int32} {σ : rS} {h : rH} {o : (Int32 × rS)} (hr : Rep G ad σ h) (hf : fX12_sum a0 a1 σ = some o) : rMT G mX12_sum (rm 2 0 0) [.ref (ad 43), .int a0, .int a1] h (qI G ad o) xN := by
  unfold fX12_sum at hf
  refine rw_met (by decide +kernel) rfl (Nat.le_of_ble_eq_true rfl) ?_
  show RW G _ _ _ _ 0 0 0 [(0, .ref (ad 43)), (1, .int a0), (2, .int a1)] [] h
  refine rw_aload_n dX12_sum_0 0 rfl rfl ?_
  obtain ⟨q1, hq1, hf⟩ := bnd hf
  refine kV_I (ad := ad) (As := []) (st := []) dX12_sum_1 calX12_isOld wm1724 wm1726 wm45 rfl rfl (rc_43 hr) (ci := 12) (by decide) rfl rfl (Nat.le_of_ble_eq_true rfl) ⟨⟨by decide, by decide⟩, by decide, by decide⟩ (cmX12_isOld hr hq1) (fun h hr => ?_)
  refine rw_if_ne (tgt := 58) dX12_sum_4 (by decide) (fun c2 => ?_) (fun c2 => ?_)
  · rw [if_neg c2] at hf
    refine rw_sub [] rfl ?_
    exact t_jX12_sum_58 (ad := ad) (G := G)  q1.2 _ hr hf
  · rw [if_pos c2] at hf
    refine rw_aload_n dX12_sum_7 0 rfl rfl ?_
    refine rw_aload_n dX12_sum_8 0 rfl rfl ?_
    refine rw_iload_n dX12_sum_9 1 rfl rfl ?_
    obtain ⟨q3, hq3, hf⟩ := bnd hf
    refine kV_I (ad := ad) (As := [.int a0]) (st := [.ref (ad 43)]) dX12_sum_10 calX12_isBoring wm1625 wm1627 wm32 rfl rfl (rc_43 hr) (ci := 12) (by decide) rfl rfl (Nat.le_of_ble_eq_true rfl) ⟨⟨by decide, by decide⟩, by decide, by decide⟩ (cmX12_isBoring hr hq3) (fun h hr => ?_)
    refine rw_if_eq (tgt := 24) dX12_sum_13 (by decide) (fun c4 => ?_) (fun c4 => ?_)
    · rw [if_pos c4] at hf
      exact t_jX12_sum_24 (ad := ad) (G := G)  a0 a1 q3.2 _ hr hf
    · rw [if_neg c4] at hf
      refine rw_aload_n dX12_sum_16 0 rfl rfl ?_
      refine rw_iload_n dX12_sum_17 2 rfl rfl ?_
      obtain ⟨q5, hq5, hf⟩ := bnd hf
      refine kV_I (ad := ad) (As := [.int a1]) (st := [.ref (ad 43)]) dX12_sum_18 calX12_isBoring wm1625 wm1627 wm32 rfl rfl (rc_43 hr) (ci := 12) (by decide) rfl rfl (Nat.le_of_ble_eq_true rfl) ⟨⟨by decide, by decide⟩, by decide, by decide⟩ (cmX12_isBoring hr hq5) (fun h hr => ?_)
      refine rw_if_ne (tgt := 28) dX12_sum_21 (by decide) (fun c6 => ?_) (fun c6 => ?_)
      · rw [if_neg c6] at hf
        refine rw_iconst (v := 0) dX12_sum_28 (by decide) ?_
        exact t_jX12_sum_29 (ad := ad) (G := G)  a0 a1 0 q5.2 _ hr hf
      · rw [if_pos c6] at hf
        exact t_jX12_sum_24 (ad := ad) (G := G)  a0 a1 q5.2 _ hr hf
def jX12_section_317  (s0 : Int32) (σ : rS) : Option (Int32 × rS) := some (s0, σ)
set_option maxHeartbeats 4000000 in
theorem t_jX12_section_317 {G : rG} {ad : Nat → Nat} {o : (Int32 × rS)}   (s0 : Int32) (σ : rS) (h : rH) (hr : Rep G ad σ h) (hf : jX12_section_317  s0 σ = some o) : RW G mX12_section (rm 2 0 0) (qI G ad o) xN 0 0 317 [] [.int s0] h := by
  unfold jX12_section_317 at hf
  replace hf := Option.some.inj hf
  subst hf
  exact rw_ireturn dX12_section_317 rfl ⟨rfl, hr⟩ (by decide) (by decide)
def jX12_section_303   (σ : rS) : Option (Int32 × rS) := some (0, σ)
set_option maxHeartbeats 4000000 in
theorem t_jX12_section_303 {G : rG} {ad : Nat → Nat} {o : (Int32 × rS)}    (σ : rS) (h : rH) (hr : Rep G ad σ h) (hf : jX12_section_303   σ = some o) : RW G mX12_section (rm 2 0 0) (qI G ad o) xN 0 0 303 [] [] h := by
  unfold jX12_section_303 at hf
  refine rw_iconst (v := 0) dX12_section_303 (by decide) ?_
  replace hf := Option.some.inj hf
  subst hf
  exact rw_ireturn dX12_section_304 rfl ⟨rfl, hr⟩ (by decide) (by decide)
def jX12_section_296  (v4 : Int32) (v8 : Int32) (v9 : Int32) (s0 : Int32) (σ : rS) : Option (Int32 × rS) := (fX12_fails s0 3 σ).bind fun q22 => if q22.1 = 0 then if v4 = 0 then jX12_section_317 v8 q22.2 else jX12_section_317 v9 q22.2 else jX12_section_303 q22.2
set_option maxHeartbeats 4000000 in
theorem t_jX12_section_296 {G : rG} {ad : Nat → Nat} {o : (Int32 × rS)}   (v4 : Int32) (v8 : Int32) (v9 : Int32) (s0 : Int32) (σ : rS) (h : rH) (hr : Rep G ad σ h) (hf : jX12_section_296  v4 v8 v9 s0 σ = some o) : RW G mX12_section (rm 2 0 0) (qI G ad o) xN 0 0 296 [(4, .int v4), (8, .int v8), (9, .int v9)] [.int s0, .ref (ad 43)] h := by
  unfold jX12_section_296 at hf
  refine rw_iconst (v := 3) dX12_section_296 (by decide) ?_
  obtain ⟨q22, hq22, hf⟩ := bnd hf
  refine kV_I (ad := ad) (As := [.int s0, .int 3]) (st := []) dX12_section_297 calX12_fails wm1728 wm1730 wm46 rfl rfl (rc_43 hr) (ci := 12) (by decide) rfl rfl (Nat.le_of_ble_eq_true rfl) ⟨⟨by decide, by decide⟩, by decide, by decide⟩ (cmX12_fails hr hq22) (fun h hr => ?_)
  refine rw_if_eq (tgt := 305) dX12_section_300 (by decide) (fun c23 => ?_) (fun c23 => ?_)
  · rw [if_pos c23] at hf
    refine rw_iload dX12_section_305 0 rfl ?_
    refine rw_if_ne (tgt := 315) dX12_section_307 (by decide) (fun c24 => ?_) (fun c24 => ?_)
    · rw [if_neg c24] at hf
      refine rw_iload dX12_section_315 2 rfl ?_
      refine rw_sub [] rfl ?_
      exact t_jX12_section_317 (ad := ad) (G := G)  v9 q22.2 _ hr hf
    · rw [if_pos c24] at hf
      refine rw_iload dX12_section_310 1 rfl ?_
      refine rw_goto (tgt := 317) dX12_section_312 (by decide) ?_
      refine rw_sub [] rfl ?_
      exact t_jX12_section_317 (ad := ad) (G := G)  v8 q22.2 _ hr hf
  · rw [if_neg c23] at hf
    refine rw_sub [] rfl ?_
    exact t_jX12_section_303 (ad := ad) (G := G)  q22.2 _ hr hf
def jX12_section_273  (v4 : Int32) (v8 : Int32) (v9 : Int32) (s0 : Int32) (σ : rS) : Option (Int32 × rS) := (fX12_fails s0 2 σ).bind fun q18 => if q18.1 = 0 then (fX12_in v4 0 1 q18.2).bind fun q20 => if q20.1 = 0 then jX12_section_296 v4 v8 v9 1 q20.2 else jX12_section_296 v4 v8 v9 0 q20.2 else jX12_section_303 q18.2
set_option maxHeartbeats 4000000 in
theorem t_jX12_section_273 {G : rG} {ad : Nat → Nat} {o : (Int32 × rS)}   (v4 : Int32) (v8 : Int32) (v9 : Int32) (s0 : Int32) (σ : rS) (h : rH) (hr : Rep G ad σ h) (hf : jX12_section_273  v4 v8 v9 s0 σ = some o) : RW G mX12_section (rm 2 0 0) (qI G ad o) xN 0 0 273 [(0, .ref (ad 43)), (4, .int v4), (8, .int v8), (9, .int v9)] [.int s0, .ref (ad 43)] h := by
  unfold jX12_section_273 at hf
  refine rw_iconst (v := 2) dX12_section_273 (by decide) ?_
  obtain ⟨q18, hq18, hf⟩ := bnd hf
  refine kV_I (ad := ad) (As := [.int s0, .int 2]) (st := []) dX12_section_274 calX12_fails wm1728 wm1730 wm46 rfl rfl (rc_43 hr) (ci := 12) (by decide) rfl rfl (Nat.le_of_ble_eq_true rfl) ⟨⟨by decide, by decide⟩, by decide, by decide⟩ (cmX12_fails hr hq18) (fun h hr => ?_)
  refine rw_if_ne (tgt := 303) dX12_section_277 (by decide) (fun c19 => ?_) (fun c19 => ?_)
  · rw [if_neg c19] at hf
    refine rw_sub [] rfl ?_
    exact t_jX12_section_303 (ad := ad) (G := G)  q18.2 _ hr hf
  · rw [if_pos c19] at hf
    refine rw_aload_n dX12_section_280 0 rfl rfl ?_
    refine rw_iload dX12_section_281 1 rfl ?_
    refine rw_iconst (v := 0) dX12_section_283 (by decide) ?_
    refine rw_iconst (v := 1) dX12_section_284 (by decide) ?_
    obtain ⟨q20, hq20, hf⟩ := bnd hf
    refine kS_I (ad := ad) (As := [.int v4, .int 0, .int 1]) (st := [.ref (ad 43)]) dX12_section_285 calX12_in wm1612 wm1613 rfl rfl (Nat.le_of_ble_eq_true rfl) ⟨⟨by decide, by decide⟩, by decide, by decide⟩ (cmX12_in hr hq20) (fun h hr => ?_)
    refine rw_if_ne (tgt := 295) dX12_section_288 (by decide) (fun c21 => ?_) (fun c21 => ?_)
    · rw [if_neg c21] at hf
      refine rw_iconst (v := 0) dX12_section_295 (by decide) ?_
      refine rw_sub [1, 2, 3] rfl ?_
      exact t_jX12_section_296 (ad := ad) (G := G)  v4 v8 v9 0 q20.2 _ hr hf
    · rw [if_pos c21] at hf
      refine rw_iconst (v := 1) dX12_section_291 (by decide) ?_
      refine rw_goto (tgt := 296) dX12_section_292 (by decide) ?_
      refine rw_sub [1, 2, 3] rfl ?_
      exact t_jX12_section_296 (ad := ad) (G := G)  v4 v8 v9 1 q20.2 _ hr hf
def jX12_section_253 (k78 : Int32 → Int32 → Int32 → Int32 → Int32 → Int32 → Int32 → Int32 → Int32 → Int32 → rS → Option (Int32 × rS)) (v1 : Int32) (v2 : Int32) (v3 : Int32) (v4 : Int32) (v5 : Int32) (v6 : Int32) (v8 : Int32) (v9 : Int32) (v10 : Int32) (s0 : Int32) (s1 : Int32) (σ : rS) : Option (Int32 × rS) := vI (s1 + s0) fun x43 => vI (v5 + 1) fun x44 => k78 v1 v2 v3 v4 x44 v6 x43 v8 v9 v10 σ
set_option maxHeartbeats 4000000 in
theorem t_jX12_section_253 {G : rG} {ad : Nat → Nat} {o : (Int32 × rS)} (k78 : Int32 → Int32 → Int32 → Int32 → Int32 → Int32 → Int32 → Int32 → Int32 → Int32 → rS → Option (Int32 × rS)) (hk78 : ∀ (v1 : Int32) (v2 : Int32) (v3 : Int32) (v4 : Int32) (v5 : Int32) (v6 : Int32) (v7 : Int32) (v8 : Int32) (v9 : Int32) (v10 : Int32) (σ : rS) (h : rH), Rep G ad σ h → k78 v1 v2 v3 v4 v5 v6 v7 v8 v9 v10 σ = some o → RW G mX12_section (rm 2 0 0) (qI G ad o) xN 0 0 78 [(0, .ref (ad 43)), (1, .int v1), (2, .int v2), (3, .int v3), (4, .int v4), (5, .int v5), (6, .int v6), (7, .int v7), (8, .int v8), (9, .int v9), (10, .int v10)] [] h) (v1 : Int32) (v2 : Int32) (v3 : Int32) (v4 : Int32) (v5 : Int32) (v6 : Int32) (v8 : Int32) (v9 : Int32) (v10 : Int32) (s0 : Int32) (s1 : Int32) (σ : rS) (h : rH) (hr : Rep G ad σ h) (hf : jX12_section_253 k78 v1 v2 v3 v4 v5 v6 v8 v9 v10 s0 s1 σ = some o) : RW G mX12_section (rm 2 0 0) (qI G ad o) xN 0 0 253 [(0, .ref (ad 43)), (1, .int v1), (2, .int v2), (3, .int v3), (4, .int v4), (5, .int v5), (6, .int v6), (8, .int v8), (9, .int v9), (10, .int v10)] [.int s0, .int s1] h := by
  unfold jX12_section_253 at hf
  refine rw_iadd dX12_section_253 ?_
  refine nmI hf (fun x43 hf => ?_)
  refine rw_istore (lv2 := [(7, .int x43), (0, .ref (ad 43)), (1, .int v1), (2, .int v2), (3, .int v3), (4, .int v4), (5, .int v5), (6, .int v6), (8, .int v8), (9, .int v9), (10, .int v10)]) dX12_section_254 (by decide) rfl ?_
  refine rw_iinc (v := v5 + 1) (lv2 := [(5, .int (v5 + 1)), (7, .int x43), (0, .ref (ad 43)), (1, .int v1), (2, .int v2), (3, .int v3), (4, .int v4), (6, .int v6), (8, .int v8), (9, .int v9), (10, .int v10)]) dX12_section_256 6 rfl rfl (by decide) rfl ?_
  refine nmL hf (fun x44 hf => ?_)
  refine rw_goto (tgt := 78) dX12_section_259 (by decide) ?_
  refine rw_sub [2, 3, 4, 5, 6, 0, 7, 1, 8, 9, 10] rfl ?_
  exact hk78 v1 v2 v3 v4 x44 v6 x43 v8 v9 v10 σ _ hr hf
def jX12_section_237 (k78 : Int32 → Int32 → Int32 → Int32 → Int32 → Int32 → Int32 → Int32 → Int32 → Int32 → rS → Option (Int32 × rS)) (v1 : Int32) (v2 : Int32) (v3 : Int32) (v4 : Int32) (v5 : Int32) (v7 : Int32) (v8 : Int32) (v9 : Int32) (v10 : Int32) (v14 : Int32) (s0 : Int32) (s1 : Int32) (σ : rS) : Option (Int32 × rS) := vI (s1 + s0) fun x41 => if v14 = ((-1)) then jX12_section_253 k78 v1 v2 v3 v4 v5 x41 v8 v9 v10 0 v7 σ else jX12_section_253 k78 v1 v2 v3 v4 v5 x41 v8 v9 v10 1 v7 σ
set_option maxHeartbeats 4000000 in
theorem t_jX12_section_237 {G : rG} {ad : Nat → Nat} {o : (Int32 × rS)} (k78 : Int32 → Int32 → Int32 → Int32 → Int32 → Int32 → Int32 → Int32 → Int32 → Int32 → rS → Option (Int32 × rS)) (hk78 : ∀ (v1 : Int32) (v2 : Int32) (v3 : Int32) (v4 : Int32) (v5 : Int32) (v6 : Int32) (v7 : Int32) (v8 : Int32) (v9 : Int32) (v10 : Int32) (σ : rS) (h : rH), Rep G ad σ h → k78 v1 v2 v3 v4 v5 v6 v7 v8 v9 v10 σ = some o → RW G mX12_section (rm 2 0 0) (qI G ad o) xN 0 0 78 [(0, .ref (ad 43)), (1, .int v1), (2, .int v2), (3, .int v3), (4, .int v4), (5, .int v5), (6, .int v6), (7, .int v7), (8, .int v8), (9, .int v9), (10, .int v10)] [] h) (v1 : Int32) (v2 : Int32) (v3 : Int32) (v4 : Int32) (v5 : Int32) (v7 : Int32) (v8 : Int32) (v9 : Int32) (v10 : Int32) (v14 : Int32) (s0 : Int32) (s1 : Int32) (σ : rS) (h : rH) (hr : Rep G ad σ h) (hf : jX12_section_237 k78 v1 v2 v3 v4 v5 v7 v8 v9 v10 v14 s0 s1 σ = some o) : RW G mX12_section (rm 2 0 0) (qI G ad o) xN 0 0 237 [(0, .ref (ad 43)), (1, .int v1), (2, .int v2), (3, .int v3), (4, .int v4), (5, .int v5), (7, .int v7), (8, .int v8), (9, .int v9), (10, .int v10), (14, .int v14)] [.int s0, .int s1] h := by
  unfold jX12_section_237 at hf
  refine rw_iadd dX12_section_237 ?_
  refine nmI hf (fun x41 hf => ?_)
  refine rw_istore (lv2 := [(6, .int x41), (0, .ref (ad 43)), (1, .int v1), (2, .int v2), (3, .int v3), (4, .int v4), (5, .int v5), (7, .int v7), (8, .int v8), (9, .int v9), (10, .int v10), (14, .int v14)]) dX12_section_238 (by decide) rfl ?_
  refine rw_iload dX12_section_240 7 rfl ?_
  refine rw_iload dX12_section_242 11 rfl ?_
  refine rw_iconst (v := (-1)) dX12_section_244 (by decide) ?_
  refine rw_icmp_ne (tgt := 252) dX12_section_245 (by decide) (fun c42 => ?_) (fun c42 => ?_)
  · rw [if_neg c42] at hf
    refine rw_iconst (v := 1) dX12_section_252 (by decide) ?_
    refine rw_sub [1, 2, 3, 4, 5, 6, 0, 8, 9, 10] rfl ?_
    exact t_jX12_section_253 (ad := ad) (G := G) k78 hk78 v1 v2 v3 v4 v5 x41 v8 v9 v10 1 v7 σ _ hr hf
  · rw [if_pos c42] at hf
    refine rw_iconst (v := 0) dX12_section_248 (by decide) ?_
    refine rw_goto (tgt := 253) dX12_section_249 (by decide) ?_
    refine rw_sub [1, 2, 3, 4, 5, 6, 0, 8, 9, 10] rfl ?_
    exact t_jX12_section_253 (ad := ad) (G := G) k78 hk78 v1 v2 v3 v4 v5 x41 v8 v9 v10 0 v7 σ _ hr hf
def jX12_section_224 (k78 : Int32 → Int32 → Int32 → Int32 → Int32 → Int32 → Int32 → Int32 → Int32 → Int32 → rS → Option (Int32 × rS)) (v1 : Int32) (v2 : Int32) (v3 : Int32) (v4 : Int32) (v5 : Int32) (v6 : Int32) (v7 : Int32) (v8 : Int32) (v9 : Int32) (v10 : Int32) (v13 : Int32) (v14 : Int32) (σ : rS) : Option (Int32 × rS) := if v13 = ((-1)) then jX12_section_237 k78 v1 v2 v3 v4 v5 v7 v8 v9 v10 v14 0 v6 σ else jX12_section_237 k78 v1 v2 v3 v4 v5 v7 v8 v9 v10 v14 1 v6 σ
set_option maxHeartbeats 4000000 in
theorem t_jX12_section_224 {G : rG} {ad : Nat → Nat} {o : (Int32 × rS)} (k78 : Int32 → Int32 → Int32 → Int32 → Int32 → Int32 → Int32 → Int32 → Int32 → Int32 → rS → Option (Int32 × rS)) (hk78 : ∀ (v1 : Int32) (v2 : Int32) (v3 : Int32) (v4 : Int32) (v5 : Int32) (v6 : Int32) (v7 : Int32) (v8 : Int32) (v9 : Int32) (v10 : Int32) (σ : rS) (h : rH), Rep G ad σ h → k78 v1 v2 v3 v4 v5 v6 v7 v8 v9 v10 σ = some o → RW G mX12_section (rm 2 0 0) (qI G ad o) xN 0 0 78 [(0, .ref (ad 43)), (1, .int v1), (2, .int v2), (3, .int v3), (4, .int v4), (5, .int v5), (6, .int v6), (7, .int v7), (8, .int v8), (9, .int v9), (10, .int v10)] [] h) (v1 : Int32) (v2 : Int32) (v3 : Int32) (v4 : Int32) (v5 : Int32) (v6 : Int32) (v7 : Int32) (v8 : Int32) (v9 : Int32) (v10 : Int32) (v13 : Int32) (v14 : Int32) (σ : rS) (h : rH) (hr : Rep G ad σ h) (hf : jX12_section_224 k78 v1 v2 v3 v4 v5 v6 v7 v8 v9 v10 v13 v14 σ = some o) : RW G mX12_section (rm 2 0 0) (qI G ad o) xN 0 0 224 [(0, .ref (ad 43)), (1, .int v1), (2, .int v2), (3, .int v3), (4, .int v4), (5, .int v5), (6, .int v6), (7, .int v7), (8, .int v8), (9, .int v9), (10, .int v10), (13, .int v13), (14, .int v14)] [] h := by
  unfold jX12_section_224 at hf
  refine rw_iload dX12_section_224 6 rfl ?_
  refine rw_iload dX12_section_226 11 rfl ?_
  refine rw_iconst (v := (-1)) dX12_section_228 (by decide) ?_
  refine rw_icmp_ne (tgt := 236) dX12_section_229 (by decide) (fun c40 => ?_) (fun c40 => ?_)
  · rw [if_neg c40] at hf
    refine rw_iconst (v := 1) dX12_section_236 (by decide) ?_
    refine rw_sub [0, 1, 2, 3, 4, 5, 7, 8, 9, 10, 12] rfl ?_
    exact t_jX12_section_237 (ad := ad) (G := G) k78 hk78 v1 v2 v3 v4 v5 v7 v8 v9 v10 v14 1 v6 σ _ hr hf
  · rw [if_pos c40] at hf
    refine rw_iconst (v := 0) dX12_section_232 (by decide) ?_
    refine rw_goto (tgt := 237) dX12_section_233 (by decide) ?_
    refine rw_sub [0, 1, 2, 3, 4, 5, 7, 8, 9, 10, 12] rfl ?_
    exact t_jX12_section_237 (ad := ad) (G := G) k78 hk78 v1 v2 v3 v4 v5 v7 v8 v9 v10 v14 0 v6 σ _ hr hf
def jX12_section_205 (k78 : Int32 → Int32 → Int32 → Int32 → Int32 → Int32 → Int32 → Int32 → Int32 → Int32 → rS → Option (Int32 × rS)) (v1 : Int32) (v2 : Int32) (v3 : Int32) (v4 : Int32) (v5 : Int32) (v6 : Int32) (v7 : Int32) (v8 : Int32) (v9 : Int32) (v10 : Int32) (v13 : Int32) (s0 : Int32) (σ : rS) : Option (Int32 × rS) := if v5 = v3 then jX12_section_224 k78 v1 v2 v3 v4 v5 v6 v7 v13 s0 1 v13 s0 σ else jX12_section_224 k78 v1 v2 v3 v4 v5 v6 v7 v8 v9 v10 v13 s0 σ
set_option maxHeartbeats 4000000 in
theorem t_jX12_section_205 {G : rG} {ad : Nat → Nat} {o : (Int32 × rS)} (k78 : Int32 → Int32 → Int32 → Int32 → Int32 → Int32 → Int32 → Int32 → Int32 → Int32 → rS → Option (Int32 × rS)) (hk78 : ∀ (v1 : Int32) (v2 : Int32) (v3 : Int32) (v4 : Int32) (v5 : Int32) (v6 : Int32) (v7 : Int32) (v8 : Int32) (v9 : Int32) (v10 : Int32) (σ : rS) (h : rH), Rep G ad σ h → k78 v1 v2 v3 v4 v5 v6 v7 v8 v9 v10 σ = some o → RW G mX12_section (rm 2 0 0) (qI G ad o) xN 0 0 78 [(0, .ref (ad 43)), (1, .int v1), (2, .int v2), (3, .int v3), (4, .int v4), (5, .int v5), (6, .int v6), (7, .int v7), (8, .int v8), (9, .int v9), (10, .int v10)] [] h) (v1 : Int32) (v2 : Int32) (v3 : Int32) (v4 : Int32) (v5 : Int32) (v6 : Int32) (v7 : Int32) (v8 : Int32) (v9 : Int32) (v10 : Int32) (v13 : Int32) (s0 : Int32) (σ : rS) (h : rH) (hr : Rep G ad σ h) (hf : jX12_section_205 k78 v1 v2 v3 v4 v5 v6 v7 v8 v9 v10 v13 s0 σ = some o) : RW G mX12_section (rm 2 0 0) (qI G ad o) xN 0 0 205 [(0, .ref (ad 43)), (1, .int v1), (2, .int v2), (3, .int v3), (4, .int v4), (5, .int v5), (6, .int v6), (7, .int v7), (8, .int v8), (9, .int v9), (10, .int v10), (13, .int v13)] [.int s0] h := by
  unfold jX12_section_205 at hf
  refine rw_istore (lv2 := [(14, .int s0), (0, .ref (ad 43)), (1, .int v1), (2, .int v2), (3, .int v3), (4, .int v4), (5, .int v5), (6, .int v6), (7, .int v7), (8, .int v8), (9, .int v9), (10, .int v10), (13, .int v13)]) dX12_section_205 (by decide) rfl ?_
  refine rw_iload dX12_section_207 6 rfl ?_
  refine rw_iload_n dX12_section_209 4 rfl rfl ?_
  refine rw_icmp_ne (tgt := 224) dX12_section_210 (by decide) (fun c39 => ?_) (fun c39 => ?_)
  · rw [if_neg c39] at hf
    refine rw_sub [1, 2, 3, 4, 5, 6, 7, 8, 9, 10, 11, 12, 0] rfl ?_
    exact t_jX12_section_224 (ad := ad) (G := G) k78 hk78 v1 v2 v3 v4 v5 v6 v7 v8 v9 v10 v13 s0 σ _ hr hf
  · rw [if_pos c39] at hf
    refine rw_iload dX12_section_213 12 rfl ?_
    refine rw_istore (lv2 := [(8, .int v13), (14, .int s0), (0, .ref (ad 43)), (1, .int v1), (2, .int v2), (3, .int v3), (4, .int v4), (5, .int v5), (6, .int v6), (7, .int v7), (9, .int v9), (10, .int v10), (13, .int v13)]) dX12_section_215 (by decide) rfl ?_
    refine rw_iload dX12_section_217 1 rfl ?_
    refine rw_istore (lv2 := [(9, .int s0), (8, .int v13), (14, .int s0), (0, .ref (ad 43)), (1, .int v1), (2, .int v2), (3, .int v3), (4, .int v4), (5, .int v5), (6, .int v6), (7, .int v7), (10, .int v10), (13, .int v13)]) dX12_section_219 (by decide) rfl ?_
    refine rw_iconst (v := 1) dX12_section_221 (by decide) ?_
    refine rw_istore (lv2 := [(10, .int 1), (9, .int s0), (8, .int v13), (14, .int s0), (0, .ref (ad 43)), (1, .int v1), (2, .int v2), (3, .int v3), (4, .int v4), (5, .int v5), (6, .int v6), (7, .int v7), (13, .int v13)]) dX12_section_222 (by decide) rfl ?_
    refine rw_sub [4, 5, 6, 7, 8, 9, 10, 11, 2, 1, 0, 12, 3] rfl ?_
    exact t_jX12_section_224 (ad := ad) (G := G) k78 hk78 v1 v2 v3 v4 v5 v6 v7 v13 s0 1 v13 s0 σ _ hr hf
def jX12_section_203 (k78 : Int32 → Int32 → Int32 → Int32 → Int32 → Int32 → Int32 → Int32 → Int32 → Int32 → rS → Option (Int32 × rS)) (v1 : Int32) (v2 : Int32) (v3 : Int32) (v4 : Int32) (v5 : Int32) (v6 : Int32) (v7 : Int32) (v8 : Int32) (v9 : Int32) (v10 : Int32) (v13 : Int32) (σ : rS) : Option (Int32 × rS) := jX12_section_205 k78 v1 v2 v3 v4 v5 v6 v7 v8 v9 v10 v13 v7 σ
set_option maxHeartbeats 4000000 in
theorem t_jX12_section_203 {G : rG} {ad : Nat → Nat} {o : (Int32 × rS)} (k78 : Int32 → Int32 → Int32 → Int32 → Int32 → Int32 → Int32 → Int32 → Int32 → Int32 → rS → Option (Int32 × rS)) (hk78 : ∀ (v1 : Int32) (v2 : Int32) (v3 : Int32) (v4 : Int32) (v5 : Int32) (v6 : Int32) (v7 : Int32) (v8 : Int32) (v9 : Int32) (v10 : Int32) (σ : rS) (h : rH), Rep G ad σ h → k78 v1 v2 v3 v4 v5 v6 v7 v8 v9 v10 σ = some o → RW G mX12_section (rm 2 0 0) (qI G ad o) xN 0 0 78 [(0, .ref (ad 43)), (1, .int v1), (2, .int v2), (3, .int v3), (4, .int v4), (5, .int v5), (6, .int v6), (7, .int v7), (8, .int v8), (9, .int v9), (10, .int v10)] [] h) (v1 : Int32) (v2 : Int32) (v3 : Int32) (v4 : Int32) (v5 : Int32) (v6 : Int32) (v7 : Int32) (v8 : Int32) (v9 : Int32) (v10 : Int32) (v13 : Int32) (σ : rS) (h : rH) (hr : Rep G ad σ h) (hf : jX12_section_203 k78 v1 v2 v3 v4 v5 v6 v7 v8 v9 v10 v13 σ = some o) : RW G mX12_section (rm 2 0 0) (qI G ad o) xN 0 0 203 [(0, .ref (ad 43)), (1, .int v1), (2, .int v2), (3, .int v3), (4, .int v4), (5, .int v5), (6, .int v6), (7, .int v7), (8, .int v8), (9, .int v9), (10, .int v10), (13, .int v13)] [] h := by
  unfold jX12_section_203 at hf
  refine rw_iload dX12_section_203 7 rfl ?_
  exact t_jX12_section_205 (ad := ad) (G := G) k78 hk78 v1 v2 v3 v4 v5 v6 v7 v8 v9 v10 v13 v7 σ _ hr hf
def jX12_section_199 (k78 : Int32 → Int32 → Int32 → Int32 → Int32 → Int32 → Int32 → Int32 → Int32 → Int32 → rS → Option (Int32 × rS)) (v1 : Int32) (v2 : Int32) (v3 : Int32) (v4 : Int32) (v5 : Int32) (v6 : Int32) (v7 : Int32) (v8 : Int32) (v9 : Int32) (v10 : Int32) (v13 : Int32) (σ : rS) : Option (Int32 × rS) := jX12_section_205 k78 v1 v2 v3 v4 v5 v6 v7 v8 v9 v10 v13 ((-1)) σ
set_option maxHeartbeats 4000000 in
theorem t_jX12_section_199 {G : rG} {ad : Nat → Nat} {o : (Int32 × rS)} (k78 : Int32 → Int32 → Int32 → Int32 → Int32 → Int32 → Int32 → Int32 → Int32 → Int32 → rS → Option (Int32 × rS)) (hk78 : ∀ (v1 : Int32) (v2 : Int32) (v3 : Int32) (v4 : Int32) (v5 : Int32) (v6 : Int32) (v7 : Int32) (v8 : Int32) (v9 : Int32) (v10 : Int32) (σ : rS) (h : rH), Rep G ad σ h → k78 v1 v2 v3 v4 v5 v6 v7 v8 v9 v10 σ = some o → RW G mX12_section (rm 2 0 0) (qI G ad o) xN 0 0 78 [(0, .ref (ad 43)), (1, .int v1), (2, .int v2), (3, .int v3), (4, .int v4), (5, .int v5), (6, .int v6), (7, .int v7), (8, .int v8), (9, .int v9), (10, .int v10)] [] h) (v1 : Int32) (v2 : Int32) (v3 : Int32) (v4 : Int32) (v5 : Int32) (v6 : Int32) (v7 : Int32) (v8 : Int32) (v9 : Int32) (v10 : Int32) (v13 : Int32) (σ : rS) (h : rH) (hr : Rep G ad σ h) (hf : jX12_section_199 k78 v1 v2 v3 v4 v5 v6 v7 v8 v9 v10 v13 σ = some o) : RW G mX12_section (rm 2 0 0) (qI G ad o) xN 0 0 199 [(0, .ref (ad 43)), (1, .int v1), (2, .int v2), (3, .int v3), (4, .int v4), (5, .int v5), (6, .int v6), (7, .int v7), (8, .int v8), (9, .int v9), (10, .int v10), (13, .int v13)] [] h := by
  unfold jX12_section_199 at hf
  refine rw_iconst (v := (-1)) dX12_section_199 (by decide) ?_
  refine rw_goto (tgt := 205) dX12_section_200 (by decide) ?_
  exact t_jX12_section_205 (ad := ad) (G := G) k78 hk78 v1 v2 v3 v4 v5 v6 v7 v8 v9 v10 v13 ((-1)) σ _ hr hf
def jX12_section_176 (k78 : Int32 → Int32 → Int32 → Int32 → Int32 → Int32 → Int32 → Int32 → Int32 → Int32 → rS → Option (Int32 × rS)) (v1 : Int32) (v2 : Int32) (v3 : Int32) (v4 : Int32) (v5 : Int32) (v6 : Int32) (v7 : Int32) (v8 : Int32) (v9 : Int32) (v10 : Int32) (v11 : Int32) (v12 : Int32) (s0 : Int32) (σ : rS) : Option (Int32 × rS) := if v11 = 0 then if v12 = 0 then if inB v1 16 then (if v6 = (σ.2.2.1 47 v1.toNatClampNeg) then jX12_section_199 k78 v1 v2 v3 v4 v5 v6 v7 v8 v9 v10 s0 σ else jX12_section_203 k78 v1 v2 v3 v4 v5 v6 v7 v8 v9 v10 s0 σ) else none else jX12_section_203 k78 v1 v2 v3 v4 v5 v6 v7 v8 v9 v10 s0 σ else jX12_section_199 k78 v1 v2 v3 v4 v5 v6 v7 v8 v9 v10 s0 σ
set_option maxHeartbeats 4000000 in
theorem t_jX12_section_176 {G : rG} {ad : Nat → Nat} {o : (Int32 × rS)} (k78 : Int32 → Int32 → Int32 → Int32 → Int32 → Int32 → Int32 → Int32 → Int32 → Int32 → rS → Option (Int32 × rS)) (hk78 : ∀ (v1 : Int32) (v2 : Int32) (v3 : Int32) (v4 : Int32) (v5 : Int32) (v6 : Int32) (v7 : Int32) (v8 : Int32) (v9 : Int32) (v10 : Int32) (σ : rS) (h : rH), Rep G ad σ h → k78 v1 v2 v3 v4 v5 v6 v7 v8 v9 v10 σ = some o → RW G mX12_section (rm 2 0 0) (qI G ad o) xN 0 0 78 [(0, .ref (ad 43)), (1, .int v1), (2, .int v2), (3, .int v3), (4, .int v4), (5, .int v5), (6, .int v6), (7, .int v7), (8, .int v8), (9, .int v9), (10, .int v10)] [] h) (v1 : Int32) (v2 : Int32) (v3 : Int32) (v4 : Int32) (v5 : Int32) (v6 : Int32) (v7 : Int32) (v8 : Int32) (v9 : Int32) (v10 : Int32) (v11 : Int32) (v12 : Int32) (s0 : Int32) (σ : rS) (h : rH) (hr : Rep G ad σ h) (hf : jX12_section_176 k78 v1 v2 v3 v4 v5 v6 v7 v8 v9 v10 v11 v12 s0 σ = some o) : RW G mX12_section (rm 2 0 0) (qI G ad o) xN 0 0 176 [(0, .ref (ad 43)), (1, .int v1), (2, .int v2), (3, .int v3), (4, .int v4), (5, .int v5), (6, .int v6), (7, .int v7), (8, .int v8), (9, .int v9), (10, .int v10), (11, .int v11), (12, .int v12)] [.int s0] h := by
  unfold jX12_section_176 at hf
  refine rw_istore (lv2 := [(13, .int s0), (0, .ref (ad 43)), (1, .int v1), (2, .int v2), (3, .int v3), (4, .int v4), (5, .int v5), (6, .int v6), (7, .int v7), (8, .int v8), (9, .int v9), (10, .int v10), (11, .int v11), (12, .int v12)]) dX12_section_176 (by decide) rfl ?_
  refine rw_iload dX12_section_178 12 rfl ?_
  refine rw_if_ne (tgt := 199) dX12_section_180 (by decide) (fun c35 => ?_) (fun c35 => ?_)
  · rw [if_neg c35] at hf
    refine rw_sub [1, 2, 3, 4, 5, 6, 7, 8, 9, 10, 11, 0] rfl ?_
    exact t_jX12_section_199 (ad := ad) (G := G) k78 hk78 v1 v2 v3 v4 v5 v6 v7 v8 v9 v10 s0 σ _ hr hf
  · rw [if_pos c35] at hf
    refine rw_iload dX12_section_183 13 rfl ?_
    refine rw_if_ne (tgt := 203) dX12_section_185 (by decide) (fun c36 => ?_) (fun c36 => ?_)
    · rw [if_neg c36] at hf
      refine rw_sub [1, 2, 3, 4, 5, 6, 7, 8, 9, 10, 11, 0] rfl ?_
      exact t_jX12_section_203 (ad := ad) (G := G) k78 hk78 v1 v2 v3 v4 v5 v6 v7 v8 v9 v10 s0 σ _ hr hf
    · rw [if_pos c36] at hf
      refine rw_iload dX12_section_188 7 rfl ?_
      refine rw_aload_n dX12_section_190 1 rfl rfl ?_
      refine sg_43_6 hr dX12_section_191 fl1468 ?_
      refine rw_iload_n dX12_section_194 2 rfl rfl ?_
      obtain ⟨hi37, hf⟩ := grd hf
      refine sl_47 hr dX12_section_195 (inB_in hi37) ?_
      refine rw_icmp_ne (tgt := 203) dX12_section_196 (by decide) (fun c38 => ?_) (fun c38 => ?_)
      · rw [if_neg c38] at hf
        refine rw_sub [1, 2, 3, 4, 5, 6, 7, 8, 9, 10, 11, 0] rfl ?_
        exact t_jX12_section_203 (ad := ad) (G := G) k78 hk78 v1 v2 v3 v4 v5 v6 v7 v8 v9 v10 s0 σ _ hr hf
      · rw [if_pos c38] at hf
        refine rw_sub [1, 2, 3, 4, 5, 6, 7, 8, 9, 10, 11, 0] rfl ?_
        exact t_jX12_section_199 (ad := ad) (G := G) k78 hk78 v1 v2 v3 v4 v5 v6 v7 v8 v9 v10 s0 σ _ hr hf
def jX12_section_170 (k78 : Int32 → Int32 → Int32 → Int32 → Int32 → Int32 → Int32 → Int32 → Int32 → Int32 → rS → Option (Int32 × rS)) (v1 : Int32) (v2 : Int32) (v3 : Int32) (v4 : Int32) (v5 : Int32) (v6 : Int32) (v7 : Int32) (v8 : Int32) (v9 : Int32) (v10 : Int32) (v11 : Int32) (v12 : Int32) (σ : rS) : Option (Int32 × rS) := jX12_section_176 k78 v1 v2 v3 v4 v5 v6 v7 v8 v9 v10 v11 v12 v6 σ
set_option maxHeartbeats 4000000 in
theorem t_jX12_section_170 {G : rG} {ad : Nat → Nat} {o : (Int32 × rS)} (k78 : Int32 → Int32 → Int32 → Int32 → Int32 → Int32 → Int32 → Int32 → Int32 → Int32 → rS → Option (Int32 × rS)) (hk78 : ∀ (v1 : Int32) (v2 : Int32) (v3 : Int32) (v4 : Int32) (v5 : Int32) (v6 : Int32) (v7 : Int32) (v8 : Int32) (v9 : Int32) (v10 : Int32) (σ : rS) (h : rH), Rep G ad σ h → k78 v1 v2 v3 v4 v5 v6 v7 v8 v9 v10 σ = some o → RW G mX12_section (rm 2 0 0) (qI G ad o) xN 0 0 78 [(0, .ref (ad 43)), (1, .int v1), (2, .int v2), (3, .int v3), (4, .int v4), (5, .int v5), (6, .int v6), (7, .int v7), (8, .int v8), (9, .int v9), (10, .int v10)] [] h) (v1 : Int32) (v2 : Int32) (v3 : Int32) (v4 : Int32) (v5 : Int32) (v6 : Int32) (v7 : Int32) (v8 : Int32) (v9 : Int32) (v10 : Int32) (v11 : Int32) (v12 : Int32) (σ : rS) (h : rH) (hr : Rep G ad σ h) (hf : jX12_section_170 k78 v1 v2 v3 v4 v5 v6 v7 v8 v9 v10 v11 v12 σ = some o) : RW G mX12_section (rm 2 0 0) (qI G ad o) xN 0 0 170 [(0, .ref (ad 43)), (1, .int v1), (2, .int v2), (3, .int v3), (4, .int v4), (5, .int v5), (6, .int v6), (7, .int v7), (8, .int v8), (9, .int v9), (10, .int v10), (11, .int v11), (12, .int v12)] [] h := by
  unfold jX12_section_170 at hf
  refine rw_iload dX12_section_170 6 rfl ?_
  refine rw_goto (tgt := 176) dX12_section_172 (by decide) ?_
  exact t_jX12_section_176 (ad := ad) (G := G) k78 hk78 v1 v2 v3 v4 v5 v6 v7 v8 v9 v10 v11 v12 v6 σ _ hr hf
def jX12_section_158 (k78 : Int32 → Int32 → Int32 → Int32 → Int32 → Int32 → Int32 → Int32 → Int32 → Int32 → rS → Option (Int32 × rS)) (v1 : Int32) (v2 : Int32) (v3 : Int32) (v4 : Int32) (v5 : Int32) (v6 : Int32) (v7 : Int32) (v8 : Int32) (v9 : Int32) (v10 : Int32) (v11 : Int32) (s0 : Int32) (σ : rS) : Option (Int32 × rS) := if v11 = 0 then if s0 = 0 then jX12_section_170 k78 v1 v2 v3 v4 v5 v6 v7 v8 v9 v10 v11 s0 σ else jX12_section_176 k78 v1 v2 v3 v4 v5 v6 v7 v8 v9 v10 v11 s0 ((-1)) σ else jX12_section_170 k78 v1 v2 v3 v4 v5 v6 v7 v8 v9 v10 v11 s0 σ
set_option maxHeartbeats 4000000 in
theorem t_jX12_section_158 {G : rG} {ad : Nat → Nat} {o : (Int32 × rS)} (k78 : Int32 → Int32 → Int32 → Int32 → Int32 → Int32 → Int32 → Int32 → Int32 → Int32 → rS → Option (Int32 × rS)) (hk78 : ∀ (v1 : Int32) (v2 : Int32) (v3 : Int32) (v4 : Int32) (v5 : Int32) (v6 : Int32) (v7 : Int32) (v8 : Int32) (v9 : Int32) (v10 : Int32) (σ : rS) (h : rH), Rep G ad σ h → k78 v1 v2 v3 v4 v5 v6 v7 v8 v9 v10 σ = some o → RW G mX12_section (rm 2 0 0) (qI G ad o) xN 0 0 78 [(0, .ref (ad 43)), (1, .int v1), (2, .int v2), (3, .int v3), (4, .int v4), (5, .int v5), (6, .int v6), (7, .int v7), (8, .int v8), (9, .int v9), (10, .int v10)] [] h) (v1 : Int32) (v2 : Int32) (v3 : Int32) (v4 : Int32) (v5 : Int32) (v6 : Int32) (v7 : Int32) (v8 : Int32) (v9 : Int32) (v10 : Int32) (v11 : Int32) (s0 : Int32) (σ : rS) (h : rH) (hr : Rep G ad σ h) (hf : jX12_section_158 k78 v1 v2 v3 v4 v5 v6 v7 v8 v9 v10 v11 s0 σ = some o) : RW G mX12_section (rm 2 0 0) (qI G ad o) xN 0 0 158 [(0, .ref (ad 43)), (1, .int v1), (2, .int v2), (3, .int v3), (4, .int v4), (5, .int v5), (6, .int v6), (7, .int v7), (8, .int v8), (9, .int v9), (10, .int v10), (11, .int v11)] [.int s0] h := by
  unfold jX12_section_158 at hf
  refine rw_istore (lv2 := [(12, .int s0), (0, .ref (ad 43)), (1, .int v1), (2, .int v2), (3, .int v3), (4, .int v4), (5, .int v5), (6, .int v6), (7, .int v7), (8, .int v8), (9, .int v9), (10, .int v10), (11, .int v11)]) dX12_section_158 (by decide) rfl ?_
  refine rw_iload dX12_section_160 12 rfl ?_
  refine rw_if_ne (tgt := 170) dX12_section_162 (by decide) (fun c33 => ?_) (fun c33 => ?_)
  · rw [if_neg c33] at hf
    refine rw_sub [1, 2, 3, 4, 5, 6, 7, 8, 9, 10, 11, 12, 0] rfl ?_
    exact t_jX12_section_170 (ad := ad) (G := G) k78 hk78 v1 v2 v3 v4 v5 v6 v7 v8 v9 v10 v11 s0 σ _ hr hf
  · rw [if_pos c33] at hf
    refine rw_iload dX12_section_165 0 rfl ?_
    refine rw_if_ne (tgt := 175) dX12_section_167 (by decide) (fun c34 => ?_) (fun c34 => ?_)
    · rw [if_neg c34] at hf
      refine rw_iconst (v := (-1)) dX12_section_175 (by decide) ?_
      refine rw_sub [1, 2, 3, 4, 5, 6, 7, 8, 9, 10, 11, 12, 0] rfl ?_
      exact t_jX12_section_176 (ad := ad) (G := G) k78 hk78 v1 v2 v3 v4 v5 v6 v7 v8 v9 v10 v11 s0 ((-1)) σ _ hr hf
    · rw [if_pos c34] at hf
      refine rw_sub [1, 2, 3, 4, 5, 6, 7, 8, 9, 10, 11, 12, 0] rfl ?_
      exact t_jX12_section_170 (ad := ad) (G := G) k78 hk78 v1 v2 v3 v4 v5 v6 v7 v8 v9 v10 v11 s0 σ _ hr hf
def jX12_section_157 (k78 : Int32 → Int32 → Int32 → Int32 → Int32 → Int32 → Int32 → Int32 → Int32 → Int32 → rS → Option (Int32 × rS)) (v1 : Int32) (v2 : Int32) (v3 : Int32) (v4 : Int32) (v5 : Int32) (v6 : Int32) (v7 : Int32) (v8 : Int32) (v9 : Int32) (v10 : Int32) (v11 : Int32) (σ : rS) : Option (Int32 × rS) := jX12_section_158 k78 v1 v2 v3 v4 v5 v6 v7 v8 v9 v10 v11 0 σ
set_option maxHeartbeats 4000000 in
theorem t_jX12_section_157 {G : rG} {ad : Nat → Nat} {o : (Int32 × rS)} (k78 : Int32 → Int32 → Int32 → Int32 → Int32 → Int32 → Int32 → Int32 → Int32 → Int32 → rS → Option (Int32 × rS)) (hk78 : ∀ (v1 : Int32) (v2 : Int32) (v3 : Int32) (v4 : Int32) (v5 : Int32) (v6 : Int32) (v7 : Int32) (v8 : Int32) (v9 : Int32) (v10 : Int32) (σ : rS) (h : rH), Rep G ad σ h → k78 v1 v2 v3 v4 v5 v6 v7 v8 v9 v10 σ = some o → RW G mX12_section (rm 2 0 0) (qI G ad o) xN 0 0 78 [(0, .ref (ad 43)), (1, .int v1), (2, .int v2), (3, .int v3), (4, .int v4), (5, .int v5), (6, .int v6), (7, .int v7), (8, .int v8), (9, .int v9), (10, .int v10)] [] h) (v1 : Int32) (v2 : Int32) (v3 : Int32) (v4 : Int32) (v5 : Int32) (v6 : Int32) (v7 : Int32) (v8 : Int32) (v9 : Int32) (v10 : Int32) (v11 : Int32) (σ : rS) (h : rH) (hr : Rep G ad σ h) (hf : jX12_section_157 k78 v1 v2 v3 v4 v5 v6 v7 v8 v9 v10 v11 σ = some o) : RW G mX12_section (rm 2 0 0) (qI G ad o) xN 0 0 157 [(0, .ref (ad 43)), (1, .int v1), (2, .int v2), (3, .int v3), (4, .int v4), (5, .int v5), (6, .int v6), (7, .int v7), (8, .int v8), (9, .int v9), (10, .int v10), (11, .int v11)] [] h := by
  unfold jX12_section_157 at hf
  refine rw_iconst (v := 0) dX12_section_157 (by decide) ?_
  exact t_jX12_section_158 (ad := ad) (G := G) k78 hk78 v1 v2 v3 v4 v5 v6 v7 v8 v9 v10 v11 0 σ _ hr hf
def jX12_section_128 (k78 : Int32 → Int32 → Int32 → Int32 → Int32 → Int32 → Int32 → Int32 → Int32 → Int32 → rS → Option (Int32 × rS)) (v1 : Int32) (v2 : Int32) (v3 : Int32) (v4 : Int32) (v5 : Int32) (v6 : Int32) (v7 : Int32) (v8 : Int32) (v9 : Int32) (v10 : Int32) (s0 : Int32) (σ : rS) : Option (Int32 × rS) := if inB v2 16 then (if (σ.2.2.1 47 v2.toNatClampNeg) ≤ v7 then jX12_section_157 k78 v1 v2 v3 v4 v5 v6 v7 v8 v9 v10 s0 σ else (fX12_matched v2 v1 v7 σ).bind fun q31 => if q31.1 = ((-1)) then jX12_section_158 k78 v1 v2 v3 v4 v5 v6 v7 v8 v9 v10 s0 1 q31.2 else jX12_section_157 k78 v1 v2 v3 v4 v5 v6 v7 v8 v9 v10 s0 q31.2) else none
set_option maxHeartbeats 4000000 in
theorem t_jX12_section_128 {G : rG} {ad : Nat → Nat} {o : (Int32 × rS)} (k78 : Int32 → Int32 → Int32 → Int32 → Int32 → Int32 → Int32 → Int32 → Int32 → Int32 → rS → Option (Int32 × rS)) (hk78 : ∀ (v1 : Int32) (v2 : Int32) (v3 : Int32) (v4 : Int32) (v5 : Int32) (v6 : Int32) (v7 : Int32) (v8 : Int32) (v9 : Int32) (v10 : Int32) (σ : rS) (h : rH), Rep G ad σ h → k78 v1 v2 v3 v4 v5 v6 v7 v8 v9 v10 σ = some o → RW G mX12_section (rm 2 0 0) (qI G ad o) xN 0 0 78 [(0, .ref (ad 43)), (1, .int v1), (2, .int v2), (3, .int v3), (4, .int v4), (5, .int v5), (6, .int v6), (7, .int v7), (8, .int v8), (9, .int v9), (10, .int v10)] [] h) (v1 : Int32) (v2 : Int32) (v3 : Int32) (v4 : Int32) (v5 : Int32) (v6 : Int32) (v7 : Int32) (v8 : Int32) (v9 : Int32) (v10 : Int32) (s0 : Int32) (σ : rS) (h : rH) (hr : Rep G ad σ h) (hf : jX12_section_128 k78 v1 v2 v3 v4 v5 v6 v7 v8 v9 v10 s0 σ = some o) : RW G mX12_section (rm 2 0 0) (qI G ad o) xN 0 0 128 [(0, .ref (ad 43)), (1, .int v1), (2, .int v2), (3, .int v3), (4, .int v4), (5, .int v5), (6, .int v6), (7, .int v7), (8, .int v8), (9, .int v9), (10, .int v10)] [.int s0] h := by
  unfold jX12_section_128 at hf
  refine rw_istore (lv2 := [(11, .int s0), (0, .ref (ad 43)), (1, .int v1), (2, .int v2), (3, .int v3), (4, .int v4), (5, .int v5), (6, .int v6), (7, .int v7), (8, .int v8), (9, .int v9), (10, .int v10)]) dX12_section_128 (by decide) rfl ?_
  refine rw_iload dX12_section_130 8 rfl ?_
  refine rw_aload_n dX12_section_132 1 rfl rfl ?_
  refine sg_43_6 hr dX12_section_133 fl1468 ?_
  refine rw_iload_n dX12_section_136 3 rfl rfl ?_
  obtain ⟨hi29, hf⟩ := grd hf
  refine sl_47 hr dX12_section_137 (inB_in hi29) ?_
  refine rw_icmp_ge (tgt := 157) dX12_section_138 (by decide) (fun c30 => ?_) (fun c30 => ?_)
  · rw [if_pos c30] at hf
    refine rw_sub [1, 2, 3, 4, 5, 6, 7, 8, 9, 10, 11, 0] rfl ?_
    exact t_jX12_section_157 (ad := ad) (G := G) k78 hk78 v1 v2 v3 v4 v5 v6 v7 v8 v9 v10 s0 σ _ hr hf
  · rw [if_neg c30] at hf
    refine rw_aload_n dX12_section_141 1 rfl rfl ?_
    refine rw_iload_n dX12_section_142 3 rfl rfl ?_
    refine rw_iload_n dX12_section_143 2 rfl rfl ?_
    refine rw_iload dX12_section_144 8 rfl ?_
    obtain ⟨q31, hq31, hf⟩ := bnd hf
    refine kV_I (ad := ad) (As := [.int v2, .int v1, .int v7]) (st := []) dX12_section_146 calX12_matched wm1744 wm1746 wm47 rfl rfl (rc_43 hr) (ci := 12) (by decide) rfl rfl (Nat.le_of_ble_eq_true rfl) ⟨⟨by decide, by decide⟩, by decide, by decide⟩ (cmX12_matched hr hq31) (fun h hr => ?_)
    refine rw_iconst (v := (-1)) dX12_section_149 (by decide) ?_
    refine rw_icmp_ne (tgt := 157) dX12_section_150 (by decide) (fun c32 => ?_) (fun c32 => ?_)
    · rw [if_neg c32] at hf
      refine rw_sub [1, 2, 3, 4, 5, 6, 7, 8, 9, 10, 11, 0] rfl ?_
      exact t_jX12_section_157 (ad := ad) (G := G) k78 hk78 v1 v2 v3 v4 v5 v6 v7 v8 v9 v10 s0 q31.2 _ hr hf
    · rw [if_pos c32] at hf
      refine rw_iconst (v := 1) dX12_section_153 (by decide) ?_
      refine rw_goto (tgt := 158) dX12_section_154 (by decide) ?_
      refine rw_sub [1, 2, 3, 4, 5, 6, 7, 8, 9, 10, 11, 0] rfl ?_
      exact t_jX12_section_158 (ad := ad) (G := G) k78 hk78 v1 v2 v3 v4 v5 v6 v7 v8 v9 v10 s0 1 q31.2 _ hr hf
def jX12_section_127 (k78 : Int32 → Int32 → Int32 → Int32 → Int32 → Int32 → Int32 → Int32 → Int32 → Int32 → rS → Option (Int32 × rS)) (v1 : Int32) (v2 : Int32) (v3 : Int32) (v4 : Int32) (v5 : Int32) (v6 : Int32) (v7 : Int32) (v8 : Int32) (v9 : Int32) (v10 : Int32) (σ : rS) : Option (Int32 × rS) := jX12_section_128 k78 v1 v2 v3 v4 v5 v6 v7 v8 v9 v10 0 σ
set_option maxHeartbeats 4000000 in
theorem t_jX12_section_127 {G : rG} {ad : Nat → Nat} {o : (Int32 × rS)} (k78 : Int32 → Int32 → Int32 → Int32 → Int32 → Int32 → Int32 → Int32 → Int32 → Int32 → rS → Option (Int32 × rS)) (hk78 : ∀ (v1 : Int32) (v2 : Int32) (v3 : Int32) (v4 : Int32) (v5 : Int32) (v6 : Int32) (v7 : Int32) (v8 : Int32) (v9 : Int32) (v10 : Int32) (σ : rS) (h : rH), Rep G ad σ h → k78 v1 v2 v3 v4 v5 v6 v7 v8 v9 v10 σ = some o → RW G mX12_section (rm 2 0 0) (qI G ad o) xN 0 0 78 [(0, .ref (ad 43)), (1, .int v1), (2, .int v2), (3, .int v3), (4, .int v4), (5, .int v5), (6, .int v6), (7, .int v7), (8, .int v8), (9, .int v9), (10, .int v10)] [] h) (v1 : Int32) (v2 : Int32) (v3 : Int32) (v4 : Int32) (v5 : Int32) (v6 : Int32) (v7 : Int32) (v8 : Int32) (v9 : Int32) (v10 : Int32) (σ : rS) (h : rH) (hr : Rep G ad σ h) (hf : jX12_section_127 k78 v1 v2 v3 v4 v5 v6 v7 v8 v9 v10 σ = some o) : RW G mX12_section (rm 2 0 0) (qI G ad o) xN 0 0 127 [(0, .ref (ad 43)), (1, .int v1), (2, .int v2), (3, .int v3), (4, .int v4), (5, .int v5), (6, .int v6), (7, .int v7), (8, .int v8), (9, .int v9), (10, .int v10)] [] h := by
  unfold jX12_section_127 at hf
  refine rw_iconst (v := 0) dX12_section_127 (by decide) ?_
  exact t_jX12_section_128 (ad := ad) (G := G) k78 hk78 v1 v2 v3 v4 v5 v6 v7 v8 v9 v10 0 σ _ hr hf
def jX12_section_100 (k78 : Int32 → Int32 → Int32 → Int32 → Int32 → Int32 → Int32 → Int32 → Int32 → Int32 → rS → Option (Int32 × rS)) (v1 : Int32) (v2 : Int32) (v3 : Int32) (v4 : Int32) (v5 : Int32) (v6 : Int32) (v7 : Int32) (v8 : Int32) (v9 : Int32) (v10 : Int32) (σ : rS) : Option (Int32 × rS) := if inB v1 16 then (if (σ.2.2.1 47 v1.toNatClampNeg) ≤ v6 then jX12_section_127 k78 v1 v2 v3 v4 v5 v6 v7 v8 v9 v10 σ else (fX12_matched v1 v2 v6 σ).bind fun q27 => if q27.1 = ((-1)) then jX12_section_128 k78 v1 v2 v3 v4 v5 v6 v7 v8 v9 v10 1 q27.2 else jX12_section_127 k78 v1 v2 v3 v4 v5 v6 v7 v8 v9 v10 q27.2) else none
set_option maxHeartbeats 4000000 in
theorem t_jX12_section_100 {G : rG} {ad : Nat → Nat} {o : (Int32 × rS)} (k78 : Int32 → Int32 → Int32 → Int32 → Int32 → Int32 → Int32 → Int32 → Int32 → Int32 → rS → Option (Int32 × rS)) (hk78 : ∀ (v1 : Int32) (v2 : Int32) (v3 : Int32) (v4 : Int32) (v5 : Int32) (v6 : Int32) (v7 : Int32) (v8 : Int32) (v9 : Int32) (v10 : Int32) (σ : rS) (h : rH), Rep G ad σ h → k78 v1 v2 v3 v4 v5 v6 v7 v8 v9 v10 σ = some o → RW G mX12_section (rm 2 0 0) (qI G ad o) xN 0 0 78 [(0, .ref (ad 43)), (1, .int v1), (2, .int v2), (3, .int v3), (4, .int v4), (5, .int v5), (6, .int v6), (7, .int v7), (8, .int v8), (9, .int v9), (10, .int v10)] [] h) (v1 : Int32) (v2 : Int32) (v3 : Int32) (v4 : Int32) (v5 : Int32) (v6 : Int32) (v7 : Int32) (v8 : Int32) (v9 : Int32) (v10 : Int32) (σ : rS) (h : rH) (hr : Rep G ad σ h) (hf : jX12_section_100 k78 v1 v2 v3 v4 v5 v6 v7 v8 v9 v10 σ = some o) : RW G mX12_section (rm 2 0 0) (qI G ad o) xN 0 0 100 [(0, .ref (ad 43)), (1, .int v1), (2, .int v2), (3, .int v3), (4, .int v4), (5, .int v5), (6, .int v6), (7, .int v7), (8, .int v8), (9, .int v9), (10, .int v10)] [] h := by
  unfold jX12_section_100 at hf
  refine rw_iload dX12_section_100 6 rfl ?_
  refine rw_aload_n dX12_section_102 0 rfl rfl ?_
  refine sg_43_6 hr dX12_section_103 fl1468 ?_
  refine rw_iload_n dX12_section_106 1 rfl rfl ?_
  obtain ⟨hi25, hf⟩ := grd hf
  refine sl_47 hr dX12_section_107 (inB_in hi25) ?_
  refine rw_icmp_ge (tgt := 127) dX12_section_108 (by decide) (fun c26 => ?_) (fun c26 => ?_)
  · rw [if_pos c26] at hf
    exact t_jX12_section_127 (ad := ad) (G := G) k78 hk78 v1 v2 v3 v4 v5 v6 v7 v8 v9 v10 σ _ hr hf
  · rw [if_neg c26] at hf
    refine rw_aload_n dX12_section_111 0 rfl rfl ?_
    refine rw_iload_n dX12_section_112 1 rfl rfl ?_
    refine rw_iload_n dX12_section_113 2 rfl rfl ?_
    refine rw_iload dX12_section_114 6 rfl ?_
    obtain ⟨q27, hq27, hf⟩ := bnd hf
    refine kV_I (ad := ad) (As := [.int v1, .int v2, .int v6]) (st := []) dX12_section_116 calX12_matched wm1744 wm1746 wm47 rfl rfl (rc_43 hr) (ci := 12) (by decide) rfl rfl (Nat.le_of_ble_eq_true rfl) ⟨⟨by decide, by decide⟩, by decide, by decide⟩ (cmX12_matched hr hq27) (fun h hr => ?_)
    refine rw_iconst (v := (-1)) dX12_section_119 (by decide) ?_
    refine rw_icmp_ne (tgt := 127) dX12_section_120 (by decide) (fun c28 => ?_) (fun c28 => ?_)
    · rw [if_neg c28] at hf
      exact t_jX12_section_127 (ad := ad) (G := G) k78 hk78 v1 v2 v3 v4 v5 v6 v7 v8 v9 v10 q27.2 _ hr hf
    · rw [if_pos c28] at hf
      refine rw_iconst (v := 1) dX12_section_123 (by decide) ?_
      refine rw_goto (tgt := 128) dX12_section_124 (by decide) ?_
      exact t_jX12_section_128 (ad := ad) (G := G) k78 hk78 v1 v2 v3 v4 v5 v6 v7 v8 v9 v10 1 q27.2 _ hr hf
def lX12_section_78  : Nat → Int32 → Int32 → Int32 → Int32 → Int32 → Int32 → Int32 → Int32 → Int32 → Int32 → rS → Option (Int32 × rS)
  | 0, _, _, _, _, _, _, _, _, _, _, _ => none
  | n + 1, v1, v2, v3, v4, v5, v6, v7, v8, v9, v10, σ => if inB v1 16 then (if v6 < (σ.2.2.1 47 v1.toNatClampNeg) then jX12_section_100 (lX12_section_78 n) v1 v2 v3 v4 v5 v6 v7 v8 v9 v10 σ else if inB v2 16 then (if (σ.2.2.1 47 v2.toNatClampNeg) ≤ v7 then if v10 = 0 then jX12_section_273 v4 v8 v9 1 σ else jX12_section_273 v4 v8 v9 0 σ else jX12_section_100 (lX12_section_78 n) v1 v2 v3 v4 v5 v6 v7 v8 v9 v10 σ) else none) else none
set_option maxHeartbeats 4000000 in
theorem t_lX12_section_78 {G : rG} {ad : Nat → Nat} {o : (Int32 × rS)}   : ∀ (n : Nat) (v1 : Int32) (v2 : Int32) (v3 : Int32) (v4 : Int32) (v5 : Int32) (v6 : Int32) (v7 : Int32) (v8 : Int32) (v9 : Int32) (v10 : Int32) (σ : rS) (h : rH), Rep G ad σ h → lX12_section_78  n v1 v2 v3 v4 v5 v6 v7 v8 v9 v10 σ = some o → RW G mX12_section (rm 2 0 0) (qI G ad o) xN 0 0 78 [(0, .ref (ad 43)), (1, .int v1), (2, .int v2), (3, .int v3), (4, .int v4), (5, .int v5), (6, .int v6), (7, .int v7), (8, .int v8), (9, .int v9), (10, .int v10)] [] h := by
  intro n
  induction n with
  | zero =>
    intro v1 v2 v3 v4 v5 v6 v7 v8 v9 v10 σ h hr hf
    rw [lX12_section_78] at hf
    cases hf
  | succ n ih =>
    intro v1 v2 v3 v4 v5 v6 v7 v8 v9 v10 σ h hr hf
    rw [lX12_section_78] at hf
    refine rw_iload dX12_section_78 6 rfl ?_
    refine rw_aload_n dX12_section_80 0 rfl rfl ?_
    refine sg_43_6 hr dX12_section_81 fl1468 ?_
    refine rw_iload_n dX12_section_84 1 rfl rfl ?_
    obtain ⟨hi13, hf⟩ := grd hf
    refine sl_47 hr dX12_section_85 (inB_in hi13) ?_
    refine rw_icmp_lt (tgt := 100) dX12_section_86 (by decide) (fun c14 => ?_) (fun c14 => ?_)
    · rw [if_pos c14] at hf
      exact t_jX12_section_100 (ad := ad) (G := G) (lX12_section_78 n) ih v1 v2 v3 v4 v5 v6 v7 v8 v9 v10 σ _ hr hf
    · rw [if_neg c14] at hf
      refine rw_iload dX12_section_89 7 rfl ?_
      refine rw_aload_n dX12_section_91 0 rfl rfl ?_
      refine sg_43_6 hr dX12_section_92 fl1468 ?_
      refine rw_iload_n dX12_section_95 2 rfl rfl ?_
      obtain ⟨hi15, hf⟩ := grd hf
      refine sl_47 hr dX12_section_96 (inB_in hi15) ?_
      refine rw_icmp_ge (tgt := 262) dX12_section_97 (by decide) (fun c16 => ?_) (fun c16 => ?_)
      · rw [if_pos c16] at hf
        refine rw_aload_n dX12_section_262 0 rfl rfl ?_
        refine rw_iload dX12_section_263 10 rfl ?_
        refine rw_if_ne (tgt := 272) dX12_section_265 (by decide) (fun c17 => ?_) (fun c17 => ?_)
        · rw [if_neg c17] at hf
          refine rw_iconst (v := 0) dX12_section_272 (by decide) ?_
          refine rw_sub [0, 4, 8, 9] rfl ?_
          exact t_jX12_section_273 (ad := ad) (G := G)  v4 v8 v9 0 σ _ hr hf
        · rw [if_pos c17] at hf
          refine rw_iconst (v := 1) dX12_section_268 (by decide) ?_
          refine rw_goto (tgt := 273) dX12_section_269 (by decide) ?_
          refine rw_sub [0, 4, 8, 9] rfl ?_
          exact t_jX12_section_273 (ad := ad) (G := G)  v4 v8 v9 1 σ _ hr hf
      · rw [if_neg c16] at hf
        exact t_jX12_section_100 (ad := ad) (G := G) (lX12_section_78 n) ih v1 v2 v3 v4 v5 v6 v7 v8 v9 v10 σ _ hr hf
def jX12_section_58   (σ : rS) : Option (Int32 × rS) := some (0, σ)
set_option maxHeartbeats 4000000 in
theorem t_jX12_section_58 {G : rG} {ad : Nat → Nat} {o : (Int32 × rS)}    (σ : rS) (h : rH) (hr : Rep G ad σ h) (hf : jX12_section_58   σ = some o) : RW G mX12_section (rm 2 0 0) (qI G ad o) xN 0 0 58 [] [] h := by
  unfold jX12_section_58 at hf
  refine rw_iconst (v := 0) dX12_section_58 (by decide) ?_
  replace hf := Option.some.inj hf
  subst hf
  exact rw_ireturn dX12_section_59 rfl ⟨rfl, hr⟩ (by decide) (by decide)
def jX12_section_51  (v1 : Int32) (v2 : Int32) (v3 : Int32) (v4 : Int32) (s0 : Int32) (σ : rS) : Option (Int32 × rS) := (fX12_fails s0 3 σ).bind fun q11 => if q11.1 = 0 then lX12_section_78 1000 v1 v2 v3 v4 0 0 0 ((-1)) ((-1)) 0 q11.2 else jX12_section_58 q11.2
set_option maxHeartbeats 4000000 in
theorem t_jX12_section_51 {G : rG} {ad : Nat → Nat} {o : (Int32 × rS)}   (v1 : Int32) (v2 : Int32) (v3 : Int32) (v4 : Int32) (s0 : Int32) (σ : rS) (h : rH) (hr : Rep G ad σ h) (hf : jX12_section_51  v1 v2 v3 v4 s0 σ = some o) : RW G mX12_section (rm 2 0 0) (qI G ad o) xN 0 0 51 [(0, .ref (ad 43)), (1, .int v1), (2, .int v2), (3, .int v3), (4, .int v4)] [.int s0, .ref (ad 43)] h := by
  unfold jX12_section_51 at hf
  refine rw_iconst (v := 3) dX12_section_51 (by decide) ?_
  obtain ⟨q11, hq11, hf⟩ := bnd hf
  refine kV_I (ad := ad) (As := [.int s0, .int 3]) (st := []) dX12_section_52 calX12_fails wm1728 wm1730 wm46 rfl rfl (rc_43 hr) (ci := 12) (by decide) rfl rfl (Nat.le_of_ble_eq_true rfl) ⟨⟨by decide, by decide⟩, by decide, by decide⟩ (cmX12_fails hr hq11) (fun h hr => ?_)
  refine rw_if_eq (tgt := 60) dX12_section_55 (by decide) (fun c12 => ?_) (fun c12 => ?_)
  · rw [if_pos c12] at hf
    refine rw_iconst (v := 0) dX12_section_60 (by decide) ?_
    refine rw_istore (lv2 := [(5, .int 0), (0, .ref (ad 43)), (1, .int v1), (2, .int v2), (3, .int v3), (4, .int v4)]) dX12_section_61 (by decide) rfl ?_
    refine rw_iconst (v := 0) dX12_section_63 (by decide) ?_
    refine rw_istore (lv2 := [(6, .int 0), (5, .int 0), (0, .ref (ad 43)), (1, .int v1), (2, .int v2), (3, .int v3), (4, .int v4)]) dX12_section_64 (by decide) rfl ?_
    refine rw_iconst (v := 0) dX12_section_66 (by decide) ?_
    refine rw_istore (lv2 := [(7, .int 0), (6, .int 0), (5, .int 0), (0, .ref (ad 43)), (1, .int v1), (2, .int v2), (3, .int v3), (4, .int v4)]) dX12_section_67 (by decide) rfl ?_
    refine rw_iconst (v := (-1)) dX12_section_69 (by decide) ?_
    refine rw_istore (lv2 := [(8, .int ((-1))), (7, .int 0), (6, .int 0), (5, .int 0), (0, .ref (ad 43)), (1, .int v1), (2, .int v2), (3, .int v3), (4, .int v4)]) dX12_section_70 (by decide) rfl ?_
    refine rw_iconst (v := (-1)) dX12_section_72 (by decide) ?_
    refine rw_istore (lv2 := [(9, .int ((-1))), (8, .int ((-1))), (7, .int 0), (6, .int 0), (5, .int 0), (0, .ref (ad 43)), (1, .int v1), (2, .int v2), (3, .int v3), (4, .int v4)]) dX12_section_73 (by decide) rfl ?_
    refine rw_iconst (v := 0) dX12_section_75 (by decide) ?_
    refine rw_istore (lv2 := [(10, .int 0), (9, .int ((-1))), (8, .int ((-1))), (7, .int 0), (6, .int 0), (5, .int 0), (0, .ref (ad 43)), (1, .int v1), (2, .int v2), (3, .int v3), (4, .int v4)]) dX12_section_76 (by decide) rfl ?_
    refine rw_sub [6, 7, 8, 9, 10, 5, 4, 3, 2, 1, 0] rfl ?_
    exact t_lX12_section_78 (ad := ad) (G := G)  1000 v1 v2 v3 v4 0 0 0 ((-1)) ((-1)) 0 q11.2 _ hr hf
  · rw [if_neg c12] at hf
    refine rw_sub [] rfl ?_
    exact t_jX12_section_58 (ad := ad) (G := G)  q11.2 _ hr hf
def jX12_section_29  (v1 : Int32) (v2 : Int32) (v3 : Int32) (v4 : Int32) (s0 : Int32) (σ : rS) : Option (Int32 × rS) := (fX12_fails s0 2 σ).bind fun q7 => if q7.1 = 0 then (fX12_areNeighbours v1 v2 q7.2).bind fun q9 => if q9.1 = 0 then jX12_section_51 v1 v2 v3 v4 1 q9.2 else jX12_section_51 v1 v2 v3 v4 0 q9.2 else jX12_section_58 q7.2
set_option maxHeartbeats 4000000 in
theorem t_jX12_section_29 {G : rG} {ad : Nat → Nat} {o : (Int32 × rS)}   (v1 : Int32) (v2 : Int32) (v3 : Int32) (v4 : Int32) (s0 : Int32) (σ : rS) (h : rH) (hr : Rep G ad σ h) (hf : jX12_section_29  v1 v2 v3 v4 s0 σ = some o) : RW G mX12_section (rm 2 0 0) (qI G ad o) xN 0 0 29 [(0, .ref (ad 43)), (1, .int v1), (2, .int v2), (3, .int v3), (4, .int v4)] [.int s0, .ref (ad 43)] h := by
  unfold jX12_section_29 at hf
  refine rw_iconst (v := 2) dX12_section_29 (by decide) ?_
  obtain ⟨q7, hq7, hf⟩ := bnd hf
  refine kV_I (ad := ad) (As := [.int s0, .int 2]) (st := []) dX12_section_30 calX12_fails wm1728 wm1730 wm46 rfl rfl (rc_43 hr) (ci := 12) (by decide) rfl rfl (Nat.le_of_ble_eq_true rfl) ⟨⟨by decide, by decide⟩, by decide, by decide⟩ (cmX12_fails hr hq7) (fun h hr => ?_)
  refine rw_if_ne (tgt := 58) dX12_section_33 (by decide) (fun c8 => ?_) (fun c8 => ?_)
  · rw [if_neg c8] at hf
    refine rw_sub [] rfl ?_
    exact t_jX12_section_58 (ad := ad) (G := G)  q7.2 _ hr hf
  · rw [if_pos c8] at hf
    refine rw_aload_n dX12_section_36 0 rfl rfl ?_
    refine rw_aload_n dX12_section_37 0 rfl rfl ?_
    refine rw_iload_n dX12_section_38 1 rfl rfl ?_
    refine rw_iload_n dX12_section_39 2 rfl rfl ?_
    obtain ⟨q9, hq9, hf⟩ := bnd hf
    refine kV_I (ad := ad) (As := [.int v1, .int v2]) (st := [.ref (ad 43)]) dX12_section_40 calX12_areNeighbours wm1692 wm1694 wm39 rfl rfl (rc_43 hr) (ci := 12) (by decide) rfl rfl (Nat.le_of_ble_eq_true rfl) ⟨⟨by decide, by decide⟩, by decide, by decide⟩ (cmX12_areNeighbours hr hq9) (fun h hr => ?_)
    refine rw_if_ne (tgt := 50) dX12_section_43 (by decide) (fun c10 => ?_) (fun c10 => ?_)
    · rw [if_neg c10] at hf
      refine rw_iconst (v := 0) dX12_section_50 (by decide) ?_
      exact t_jX12_section_51 (ad := ad) (G := G)  v1 v2 v3 v4 0 q9.2 _ hr hf
    · rw [if_pos c10] at hf
      refine rw_iconst (v := 1) dX12_section_46 (by decide) ?_
      refine rw_goto (tgt := 51) dX12_section_47 (by decide) ?_
      exact t_jX12_section_51 (ad := ad) (G := G)  v1 v2 v3 v4 1 q9.2 _ hr hf
def jX12_section_24  (v1 : Int32) (v2 : Int32) (v3 : Int32) (v4 : Int32) (σ : rS) : Option (Int32 × rS) := jX12_section_29 v1 v2 v3 v4 1 σ
set_option maxHeartbeats 4000000 in
theorem t_jX12_section_24 {G : rG} {ad : Nat → Nat} {o : (Int32 × rS)}   (v1 : Int32) (v2 : Int32) (v3 : Int32) (v4 : Int32) (σ : rS) (h : rH) (hr : Rep G ad σ h) (hf : jX12_section_24  v1 v2 v3 v4 σ = some o) : RW G mX12_section (rm 2 0 0) (qI G ad o) xN 0 0 24 [(0, .ref (ad 43)), (1, .int v1), (2, .int v2), (3, .int v3), (4, .int v4)] [.ref (ad 43)] h := by
  unfold jX12_section_24 at hf
  refine rw_iconst (v := 1) dX12_section_24 (by decide) ?_
  refine rw_goto (tgt := 29) dX12_section_25 (by decide) ?_
  exact t_jX12_section_29 (ad := ad) (G := G)  v1 v2 v3 v4 1 σ _ hr hf
def fX12_section (a0 : Int32) (a1 : Int32) (a2 : Int32) (a3 : Int32) (σ : rS) : Option (Int32 × rS) := (fX12_isOld σ).bind fun q1 => if q1.1 = 0 then (fX12_isBoring a0 q1.2).bind fun q3 => if q3.1 = 0 then jX12_section_24 a0 a1 a2 a3 q3.2 else (fX12_isBoring a1 q3.2).bind fun q5 => if q5.1 = 0 then jX12_section_24 a0 a1 a2 a3 q5.2 else jX12_section_29 a0 a1 a2 a3 0 q5.2 else jX12_section_58 q1.2
set_option maxHeartbeats 4000000 in
theorem cmX12_section {G : rG} {ad : Nat → Nat} {a0 : Int32} {a1 : Int32} {a2 : Int32} {a3 : Int32} {σ : rS} {h : rH} {o : (Int32 × rS)} (hr : Rep G ad σ h) (hf : fX12_section a0 a1 a2 a3 σ = some o) : rMT G mX12_section (rm 2 0 0) [.ref (ad 43), .int a0, .int a1, .int a2, .int a3] h (qI G ad o) xN := by
  unfold fX12_section at hf
  refine rw_met (by decide +kernel) rfl (Nat.le_of_ble_eq_true rfl) ?_
  show RW G _ _ _ _ 0 0 0 [(0, .ref (ad 43)), (1, .int a0), (2, .int a1), (3, .int a2), (4, .int a3)] [] h
  refine rw_aload_n dX12_section_0 0 rfl rfl ?_
  obtain ⟨q1, hq1, hf⟩ := bnd hf
  refine kV_I (ad := ad) (As := []) (st := []) dX12_section_1 calX12_isOld wm1724 wm1726 wm45 rfl rfl (rc_43 hr) (ci := 12) (by decide) rfl rfl (Nat.le_of_ble_eq_true rfl) ⟨⟨by decide, by decide⟩, by decide, by decide⟩ (cmX12_isOld hr hq1) (fun h hr => ?_)
  refine rw_if_ne (tgt := 58) dX12_section_4 (by decide) (fun c2 => ?_) (fun c2 => ?_)
  · rw [if_neg c2] at hf
    refine rw_sub [] rfl ?_
    exact t_jX12_section_58 (ad := ad) (G := G)  q1.2 _ hr hf
  · rw [if_pos c2] at hf
    refine rw_aload_n dX12_section_7 0 rfl rfl ?_
    refine rw_aload_n dX12_section_8 0 rfl rfl ?_
    refine rw_iload_n dX12_section_9 1 rfl rfl ?_
    obtain ⟨q3, hq3, hf⟩ := bnd hf
    refine kV_I (ad := ad) (As := [.int a0]) (st := [.ref (ad 43)]) dX12_section_10 calX12_isBoring wm1625 wm1627 wm32 rfl rfl (rc_43 hr) (ci := 12) (by decide) rfl rfl (Nat.le_of_ble_eq_true rfl) ⟨⟨by decide, by decide⟩, by decide, by decide⟩ (cmX12_isBoring hr hq3) (fun h hr => ?_)
    refine rw_if_eq (tgt := 24) dX12_section_13 (by decide) (fun c4 => ?_) (fun c4 => ?_)
    · rw [if_pos c4] at hf
      exact t_jX12_section_24 (ad := ad) (G := G)  a0 a1 a2 a3 q3.2 _ hr hf
    · rw [if_neg c4] at hf
      refine rw_aload_n dX12_section_16 0 rfl rfl ?_
      refine rw_iload_n dX12_section_17 2 rfl rfl ?_
      obtain ⟨q5, hq5, hf⟩ := bnd hf
      refine kV_I (ad := ad) (As := [.int a1]) (st := [.ref (ad 43)]) dX12_section_18 calX12_isBoring wm1625 wm1627 wm32 rfl rfl (rc_43 hr) (ci := 12) (by decide) rfl rfl (Nat.le_of_ble_eq_true rfl) ⟨⟨by decide, by decide⟩, by decide, by decide⟩ (cmX12_isBoring hr hq5) (fun h hr => ?_)
      refine rw_if_ne (tgt := 28) dX12_section_21 (by decide) (fun c6 => ?_) (fun c6 => ?_)
      · rw [if_neg c6] at hf
        refine rw_iconst (v := 0) dX12_section_28 (by decide) ?_
        exact t_jX12_section_29 (ad := ad) (G := G)  a0 a1 a2 a3 0 q5.2 _ hr hf
      · rw [if_pos c6] at hf
        exact t_jX12_section_24 (ad := ad) (G := G)  a0 a1 a2 a3 q5.2 _ hr hf
def jX12_crosses_106 (k13 : Int32 → Int32 → rS → Option (Int32 × rS)) (v1 : Int32) (v2 : Int32) (σ : rS) : Option (Int32 × rS) := vI (v2 + 1) fun x15 => k13 v1 x15 σ
set_option maxHeartbeats 4000000 in
theorem t_jX12_crosses_106 {G : rG} {ad : Nat → Nat} {o : (Int32 × rS)} (k13 : Int32 → Int32 → rS → Option (Int32 × rS)) (hk13 : ∀ (v1 : Int32) (v2 : Int32) (σ : rS) (h : rH), Rep G ad σ h → k13 v1 v2 σ = some o → RW G mX12_crosses (rm 2 0 0) (qI G ad o) xN 0 0 13 [(0, .ref (ad 43)), (1, .int v1), (2, .int v2)] [] h) (v1 : Int32) (v2 : Int32) (σ : rS) (h : rH) (hr : Rep G ad σ h) (hf : jX12_crosses_106 k13 v1 v2 σ = some o) : RW G mX12_crosses (rm 2 0 0) (qI G ad o) xN 0 0 106 [(0, .ref (ad 43)), (1, .int v1), (2, .int v2)] [] h := by
  unfold jX12_crosses_106 at hf
  refine rw_iinc (v := v2 + 1) (lv2 := [(2, .int (v2 + 1)), (0, .ref (ad 43)), (1, .int v1)]) dX12_crosses_106 2 rfl rfl (by decide) rfl ?_
  refine nmL hf (fun x15 hf => ?_)
  refine rw_goto (tgt := 13) dX12_crosses_109 (by decide) ?_
  refine rw_sub [1, 2, 0] rfl ?_
  exact hk13 v1 x15 σ _ hr hf
def jX12_crosses_99 (k13 : Int32 → Int32 → rS → Option (Int32 × rS)) (k26 : Int32 → Int32 → Int32 → Int32 → rS → Option (Int32 × rS)) (v1 : Int32) (v2 : Int32) (v4 : Int32) (s0 : Int32) (σ : rS) : Option (Int32 × rS) := vI (v4 + 1) fun x17 => k26 v1 v2 s0 x17 σ
set_option maxHeartbeats 4000000 in
theorem t_jX12_crosses_99 {G : rG} {ad : Nat → Nat} {o : (Int32 × rS)} (k13 : Int32 → Int32 → rS → Option (Int32 × rS)) (k26 : Int32 → Int32 → Int32 → Int32 → rS → Option (Int32 × rS)) (hk13 : ∀ (v1 : Int32) (v2 : Int32) (σ : rS) (h : rH), Rep G ad σ h → k13 v1 v2 σ = some o → RW G mX12_crosses (rm 2 0 0) (qI G ad o) xN 0 0 13 [(0, .ref (ad 43)), (1, .int v1), (2, .int v2)] [] h) (hk26 : ∀ (v1 : Int32) (v2 : Int32) (v3 : Int32) (v4 : Int32) (σ : rS) (h : rH), Rep G ad σ h → k26 v1 v2 v3 v4 σ = some o → RW G mX12_crosses (rm 2 0 0) (qI G ad o) xN 0 0 26 [(0, .ref (ad 43)), (1, .int v1), (2, .int v2), (3, .int v3), (4, .int v4)] [] h) (v1 : Int32) (v2 : Int32) (v4 : Int32) (s0 : Int32) (σ : rS) (h : rH) (hr : Rep G ad σ h) (hf : jX12_crosses_99 k13 k26 v1 v2 v4 s0 σ = some o) : RW G mX12_crosses (rm 2 0 0) (qI G ad o) xN 0 0 99 [(0, .ref (ad 43)), (1, .int v1), (2, .int v2), (4, .int v4)] [.int s0] h := by
  unfold jX12_crosses_99 at hf
  refine rw_istore_n (lv2 := [(3, .int s0), (0, .ref (ad 43)), (1, .int v1), (2, .int v2), (4, .int v4)]) dX12_crosses_99 rfl (by decide) rfl ?_
  refine rw_iinc (v := v4 + 1) (lv2 := [(4, .int (v4 + 1)), (3, .int s0), (0, .ref (ad 43)), (1, .int v1), (2, .int v2)]) dX12_crosses_100 4 rfl rfl (by decide) rfl ?_
  refine nmL hf (fun x17 hf => ?_)
  refine rw_goto (tgt := 26) dX12_crosses_103 (by decide) ?_
  refine rw_sub [2, 3, 4, 1, 0] rfl ?_
  exact hk26 v1 v2 s0 x17 σ _ hr hf
def jX12_crosses_86 (k13 : Int32 → Int32 → rS → Option (Int32 × rS)) (k26 : Int32 → Int32 → Int32 → Int32 → rS → Option (Int32 × rS)) (v2 : Int32) (v3 : Int32) (v4 : Int32) (v5 : Int32) (s0 : Int32) (σ : rS) : Option (Int32 × rS) := if v5 = ((-1)) then jX12_crosses_99 k13 k26 s0 v2 v4 v3 σ else jX12_crosses_99 k13 k26 s0 v2 v4 v5 σ
set_option maxHeartbeats 4000000 in
theorem t_jX12_crosses_86 {G : rG} {ad : Nat → Nat} {o : (Int32 × rS)} (k13 : Int32 → Int32 → rS → Option (Int32 × rS)) (k26 : Int32 → Int32 → Int32 → Int32 → rS → Option (Int32 × rS)) (hk13 : ∀ (v1 : Int32) (v2 : Int32) (σ : rS) (h : rH), Rep G ad σ h → k13 v1 v2 σ = some o → RW G mX12_crosses (rm 2 0 0) (qI G ad o) xN 0 0 13 [(0, .ref (ad 43)), (1, .int v1), (2, .int v2)] [] h) (hk26 : ∀ (v1 : Int32) (v2 : Int32) (v3 : Int32) (v4 : Int32) (σ : rS) (h : rH), Rep G ad σ h → k26 v1 v2 v3 v4 σ = some o → RW G mX12_crosses (rm 2 0 0) (qI G ad o) xN 0 0 26 [(0, .ref (ad 43)), (1, .int v1), (2, .int v2), (3, .int v3), (4, .int v4)] [] h) (v2 : Int32) (v3 : Int32) (v4 : Int32) (v5 : Int32) (s0 : Int32) (σ : rS) (h : rH) (hr : Rep G ad σ h) (hf : jX12_crosses_86 k13 k26 v2 v3 v4 v5 s0 σ = some o) : RW G mX12_crosses (rm 2 0 0) (qI G ad o) xN 0 0 86 [(0, .ref (ad 43)), (2, .int v2), (3, .int v3), (4, .int v4), (5, .int v5)] [.int s0] h := by
  unfold jX12_crosses_86 at hf
  refine rw_istore_n (lv2 := [(1, .int s0), (0, .ref (ad 43)), (2, .int v2), (3, .int v3), (4, .int v4), (5, .int v5)]) dX12_crosses_86 rfl (by decide) rfl ?_
  refine rw_iload dX12_crosses_87 5 rfl ?_
  refine rw_iconst (v := (-1)) dX12_crosses_89 (by decide) ?_
  refine rw_icmp_ne (tgt := 97) dX12_crosses_90 (by decide) (fun c16 => ?_) (fun c16 => ?_)
  · rw [if_neg c16] at hf
    refine rw_iload dX12_crosses_97 5 rfl ?_
    refine rw_sub [1, 0, 2, 4] rfl ?_
    exact t_jX12_crosses_99 (ad := ad) (G := G) k13 k26 hk13 hk26 s0 v2 v4 v5 σ _ hr hf
  · rw [if_pos c16] at hf
    refine rw_iload_n dX12_crosses_93 3 rfl rfl ?_
    refine rw_goto (tgt := 99) dX12_crosses_94 (by decide) ?_
    refine rw_sub [1, 0, 2, 4] rfl ?_
    exact t_jX12_crosses_99 (ad := ad) (G := G) k13 k26 hk13 hk26 s0 v2 v4 v3 σ _ hr hf
def jX12_crosses_85 (k13 : Int32 → Int32 → rS → Option (Int32 × rS)) (k26 : Int32 → Int32 → Int32 → Int32 → rS → Option (Int32 × rS)) (v2 : Int32) (v3 : Int32) (v4 : Int32) (v5 : Int32) (σ : rS) : Option (Int32 × rS) := jX12_crosses_86 k13 k26 v2 v3 v4 v5 0 σ
set_option maxHeartbeats 4000000 in
theorem t_jX12_crosses_85 {G : rG} {ad : Nat → Nat} {o : (Int32 × rS)} (k13 : Int32 → Int32 → rS → Option (Int32 × rS)) (k26 : Int32 → Int32 → Int32 → Int32 → rS → Option (Int32 × rS)) (hk13 : ∀ (v1 : Int32) (v2 : Int32) (σ : rS) (h : rH), Rep G ad σ h → k13 v1 v2 σ = some o → RW G mX12_crosses (rm 2 0 0) (qI G ad o) xN 0 0 13 [(0, .ref (ad 43)), (1, .int v1), (2, .int v2)] [] h) (hk26 : ∀ (v1 : Int32) (v2 : Int32) (v3 : Int32) (v4 : Int32) (σ : rS) (h : rH), Rep G ad σ h → k26 v1 v2 v3 v4 σ = some o → RW G mX12_crosses (rm 2 0 0) (qI G ad o) xN 0 0 26 [(0, .ref (ad 43)), (1, .int v1), (2, .int v2), (3, .int v3), (4, .int v4)] [] h) (v2 : Int32) (v3 : Int32) (v4 : Int32) (v5 : Int32) (σ : rS) (h : rH) (hr : Rep G ad σ h) (hf : jX12_crosses_85 k13 k26 v2 v3 v4 v5 σ = some o) : RW G mX12_crosses (rm 2 0 0) (qI G ad o) xN 0 0 85 [(0, .ref (ad 43)), (2, .int v2), (3, .int v3), (4, .int v4), (5, .int v5)] [] h := by
  unfold jX12_crosses_85 at hf
  refine rw_iconst (v := 0) dX12_crosses_85 (by decide) ?_
  exact t_jX12_crosses_86 (ad := ad) (G := G) k13 k26 hk13 hk26 v2 v3 v4 v5 0 σ _ hr hf
def jX12_crosses_81 (k13 : Int32 → Int32 → rS → Option (Int32 × rS)) (k26 : Int32 → Int32 → Int32 → Int32 → rS → Option (Int32 × rS)) (v2 : Int32) (v3 : Int32) (v4 : Int32) (v5 : Int32) (σ : rS) : Option (Int32 × rS) := jX12_crosses_86 k13 k26 v2 v3 v4 v5 1 σ
set_option maxHeartbeats 4000000 in
theorem t_jX12_crosses_81 {G : rG} {ad : Nat → Nat} {o : (Int32 × rS)} (k13 : Int32 → Int32 → rS → Option (Int32 × rS)) (k26 : Int32 → Int32 → Int32 → Int32 → rS → Option (Int32 × rS)) (hk13 : ∀ (v1 : Int32) (v2 : Int32) (σ : rS) (h : rH), Rep G ad σ h → k13 v1 v2 σ = some o → RW G mX12_crosses (rm 2 0 0) (qI G ad o) xN 0 0 13 [(0, .ref (ad 43)), (1, .int v1), (2, .int v2)] [] h) (hk26 : ∀ (v1 : Int32) (v2 : Int32) (v3 : Int32) (v4 : Int32) (σ : rS) (h : rH), Rep G ad σ h → k26 v1 v2 v3 v4 σ = some o → RW G mX12_crosses (rm 2 0 0) (qI G ad o) xN 0 0 26 [(0, .ref (ad 43)), (1, .int v1), (2, .int v2), (3, .int v3), (4, .int v4)] [] h) (v2 : Int32) (v3 : Int32) (v4 : Int32) (v5 : Int32) (σ : rS) (h : rH) (hr : Rep G ad σ h) (hf : jX12_crosses_81 k13 k26 v2 v3 v4 v5 σ = some o) : RW G mX12_crosses (rm 2 0 0) (qI G ad o) xN 0 0 81 [(0, .ref (ad 43)), (2, .int v2), (3, .int v3), (4, .int v4), (5, .int v5)] [] h := by
  unfold jX12_crosses_81 at hf
  refine rw_iconst (v := 1) dX12_crosses_81 (by decide) ?_
  refine rw_goto (tgt := 86) dX12_crosses_82 (by decide) ?_
  exact t_jX12_crosses_86 (ad := ad) (G := G) k13 k26 hk13 hk26 v2 v3 v4 v5 1 σ _ hr hf
def lX12_crosses_26 (k13 : Int32 → Int32 → rS → Option (Int32 × rS)) : Nat → Int32 → Int32 → Int32 → Int32 → rS → Option (Int32 × rS)
  | 0, _, _, _, _, _ => none
  | n + 1, v1, v2, v3, v4, σ => if inB v2 120 then if inB (σ.2.2.1 53 v2.toNatClampNeg) 16 then (if (σ.2.2.1 47 (σ.2.2.1 53 v2.toNatClampNeg).toNatClampNeg) ≤ v4 then jX12_crosses_106 k13 v1 v2 σ else if inB v2 120 then (if (σ.2.2.1 55 v2.toNatClampNeg) = 0 then if inB ((12 * v2) + v4) 1440 then vI (σ.2.2.1 57 ((12 * v2) + v4).toNatClampNeg) fun x11 => (if v1 = 0 then if x11 = ((-1)) then jX12_crosses_85 k13 (lX12_crosses_26 k13 n) v2 v3 v4 x11 σ else if v3 < x11 then jX12_crosses_85 k13 (lX12_crosses_26 k13 n) v2 v3 v4 x11 σ else jX12_crosses_81 k13 (lX12_crosses_26 k13 n) v2 v3 v4 x11 σ else jX12_crosses_81 k13 (lX12_crosses_26 k13 n) v2 v3 v4 x11 σ) else none else jX12_crosses_106 k13 v1 v2 σ) else none) else none else none
set_option maxHeartbeats 4000000 in
theorem t_lX12_crosses_26 {G : rG} {ad : Nat → Nat} {o : (Int32 × rS)} (k13 : Int32 → Int32 → rS → Option (Int32 × rS)) (hk13 : ∀ (v1 : Int32) (v2 : Int32) (σ : rS) (h : rH), Rep G ad σ h → k13 v1 v2 σ = some o → RW G mX12_crosses (rm 2 0 0) (qI G ad o) xN 0 0 13 [(0, .ref (ad 43)), (1, .int v1), (2, .int v2)] [] h) : ∀ (n : Nat) (v1 : Int32) (v2 : Int32) (v3 : Int32) (v4 : Int32) (σ : rS) (h : rH), Rep G ad σ h → lX12_crosses_26 k13 n v1 v2 v3 v4 σ = some o → RW G mX12_crosses (rm 2 0 0) (qI G ad o) xN 0 0 26 [(0, .ref (ad 43)), (1, .int v1), (2, .int v2), (3, .int v3), (4, .int v4)] [] h := by
  intro n
  induction n with
  | zero =>
    intro v1 v2 v3 v4 σ h hr hf
    rw [lX12_crosses_26] at hf
    cases hf
  | succ n ih =>
    intro v1 v2 v3 v4 σ h hr hf
    rw [lX12_crosses_26] at hf
    refine rw_iload dX12_crosses_26 4 rfl ?_
    refine rw_aload_n dX12_crosses_28 0 rfl rfl ?_
    refine sg_43_6 hr dX12_crosses_29 fl1468 ?_
    refine rw_aload_n dX12_crosses_32 0 rfl rfl ?_
    refine sg_43_17 hr dX12_crosses_33 fl1479 ?_
    refine rw_iload_n dX12_crosses_36 2 rfl rfl ?_
    obtain ⟨hi5, hf⟩ := grd hf
    refine sl_53 hr dX12_crosses_37 (inB_in hi5) ?_
    obtain ⟨hi6, hf⟩ := grd hf
    refine sl_47 hr dX12_crosses_38 (inB_in hi6) ?_
    refine rw_icmp_ge (tgt := 106) dX12_crosses_39 (by decide) (fun c7 => ?_) (fun c7 => ?_)
    · rw [if_pos c7] at hf
      refine rw_sub [0, 1, 2] rfl ?_
      exact t_jX12_crosses_106 (ad := ad) (G := G) k13 hk13 v1 v2 σ _ hr hf
    · rw [if_neg c7] at hf
      refine rw_aload_n dX12_crosses_42 0 rfl rfl ?_
      refine sg_43_19 hr dX12_crosses_43 fl1481 ?_
      refine rw_iload_n dX12_crosses_46 2 rfl rfl ?_
      obtain ⟨hi8, hf⟩ := grd hf
      refine sl_55 hr dX12_crosses_47 (inB_in hi8) ?_
      refine rw_if_ne (tgt := 106) dX12_crosses_48 (by decide) (fun c9 => ?_) (fun c9 => ?_)
      · rw [if_neg c9] at hf
        refine rw_sub [0, 1, 2] rfl ?_
        exact t_jX12_crosses_106 (ad := ad) (G := G) k13 hk13 v1 v2 σ _ hr hf
      · rw [if_pos c9] at hf
        refine rw_aload_n dX12_crosses_51 0 rfl rfl ?_
        refine sg_43_21 hr dX12_crosses_52 fl1483 ?_
        refine rw_bipush (v := 12) dX12_crosses_55 (by decide) ?_
        refine rw_iload_n dX12_crosses_57 2 rfl rfl ?_
        refine rw_imul dX12_crosses_58 ?_
        refine rw_iload dX12_crosses_59 4 rfl ?_
        refine rw_iadd dX12_crosses_61 ?_
        obtain ⟨hi10, hf⟩ := grd hf
        refine sl_57 hr dX12_crosses_62 (inB_in hi10) ?_
        refine nmI hf (fun x11 hf => ?_)
        refine rw_istore (lv2 := [(5, .int x11), (0, .ref (ad 43)), (1, .int v1), (2, .int v2), (3, .int v3), (4, .int v4)]) dX12_crosses_63 (by decide) rfl ?_
        refine rw_iload_n dX12_crosses_65 2 rfl rfl ?_
        refine rw_if_ne (tgt := 81) dX12_crosses_66 (by decide) (fun c12 => ?_) (fun c12 => ?_)
        · rw [if_neg c12] at hf
          refine rw_sub [1, 3, 4, 5, 0] rfl ?_
          exact t_jX12_crosses_81 (ad := ad) (G := G) k13 (lX12_crosses_26 k13 n) hk13 ih v2 v3 v4 x11 σ _ hr hf
        · rw [if_pos c12] at hf
          refine rw_iload dX12_crosses_69 0 rfl ?_
          refine rw_iconst (v := (-1)) dX12_crosses_71 (by decide) ?_
          refine rw_icmp_eq (tgt := 85) dX12_crosses_72 (by decide) (fun c13 => ?_) (fun c13 => ?_)
          · rw [if_pos c13] at hf
            refine rw_sub [1, 3, 4, 5, 0] rfl ?_
            exact t_jX12_crosses_85 (ad := ad) (G := G) k13 (lX12_crosses_26 k13 n) hk13 ih v2 v3 v4 x11 σ _ hr hf
          · rw [if_neg c13] at hf
            refine rw_iload dX12_crosses_75 0 rfl ?_
            refine rw_iload_n dX12_crosses_77 4 rfl rfl ?_
            refine rw_icmp_gt (tgt := 85) dX12_crosses_78 (by decide) (fun c14 => ?_) (fun c14 => ?_)
            · rw [if_pos c14] at hf
              refine rw_sub [1, 3, 4, 5, 0] rfl ?_
              exact t_jX12_crosses_85 (ad := ad) (G := G) k13 (lX12_crosses_26 k13 n) hk13 ih v2 v3 v4 x11 σ _ hr hf
            · rw [if_neg c14] at hf
              refine rw_sub [1, 3, 4, 5, 0] rfl ?_
              exact t_jX12_crosses_81 (ad := ad) (G := G) k13 (lX12_crosses_26 k13 n) hk13 ih v2 v3 v4 x11 σ _ hr hf
def lX12_crosses_13  : Nat → Int32 → Int32 → rS → Option (Int32 × rS)
  | 0, _, _, _ => none
  | n + 1, v1, v2, σ => if (σ.1 43 16) ≤ v2 then if v1 = 0 ∨ v1 = 1 then some (v1, σ) else none else lX12_crosses_26 (lX12_crosses_13 n) 1000 v1 v2 ((-1)) 0 σ
set_option maxHeartbeats 4000000 in
theorem t_lX12_crosses_13 {G : rG} {ad : Nat → Nat} {o : (Int32 × rS)}   : ∀ (n : Nat) (v1 : Int32) (v2 : Int32) (σ : rS) (h : rH), Rep G ad σ h → lX12_crosses_13  n v1 v2 σ = some o → RW G mX12_crosses (rm 2 0 0) (qI G ad o) xN 0 0 13 [(0, .ref (ad 43)), (1, .int v1), (2, .int v2)] [] h := by
  intro n
  induction n with
  | zero =>
    intro v1 v2 σ h hr hf
    rw [lX12_crosses_13] at hf
    cases hf
  | succ n ih =>
    intro v1 v2 σ h hr hf
    rw [lX12_crosses_13] at hf
    refine rw_iload_n dX12_crosses_13 2 rfl rfl ?_
    refine rw_aload_n dX12_crosses_14 0 rfl rfl ?_
    refine sg_43_16 hr dX12_crosses_15 fl1478 ?_
    refine rw_icmp_ge (tgt := 112) dX12_crosses_18 (by decide) (fun c3 => ?_) (fun c3 => ?_)
    · rw [if_pos c3] at hf
      refine rw_iload_n dX12_crosses_112 1 rfl rfl ?_
      obtain ⟨hz4, hf⟩ := grd hf
      replace hf := Option.some.inj hf
      subst hf
      exact rw_zreturn dX12_crosses_113 rfl (nar_z hz4) ⟨rfl, hr⟩ (by decide) (by decide)
    · rw [if_neg c3] at hf
      refine rw_iconst (v := (-1)) dX12_crosses_21 (by decide) ?_
      refine rw_istore_n (lv2 := [(3, .int ((-1))), (0, .ref (ad 43)), (1, .int v1), (2, .int v2)]) dX12_crosses_22 rfl (by decide) rfl ?_
      refine rw_iconst (v := 0) dX12_crosses_23 (by decide) ?_
      refine rw_istore (lv2 := [(4, .int 0), (3, .int ((-1))), (0, .ref (ad 43)), (1, .int v1), (2, .int v2)]) dX12_crosses_24 (by decide) rfl ?_
      refine rw_sub [2, 3, 4, 1, 0] rfl ?_
      exact t_lX12_crosses_26 (ad := ad) (G := G) (lX12_crosses_13 n) ih 1000 v1 v2 ((-1)) 0 σ _ hr hf
def fX12_crosses  (σ : rS) : Option (Int32 × rS) := (fX12_isOld σ).bind fun q1 => if q1.1 = 0 then lX12_crosses_13 1000 0 0 q1.2 else some (0, q1.2)
set_option maxHeartbeats 4000000 in
theorem cmX12_crosses {G : rG} {ad : Nat → Nat}  {σ : rS} {h : rH} {o : (Int32 × rS)} (hr : Rep G ad σ h) (hf : fX12_crosses  σ = some o) : rMT G mX12_crosses (rm 2 0 0) [.ref (ad 43)] h (qI G ad o) xN := by
  unfold fX12_crosses at hf
  refine rw_met (by decide +kernel) rfl (Nat.le_of_ble_eq_true rfl) ?_
  show RW G _ _ _ _ 0 0 0 [(0, .ref (ad 43))] [] h
  refine rw_aload_n dX12_crosses_0 0 rfl rfl ?_
  obtain ⟨q1, hq1, hf⟩ := bnd hf
  refine kV_I (ad := ad) (As := []) (st := []) dX12_crosses_1 calX12_isOld wm1724 wm1726 wm45 rfl rfl (rc_43 hr) (ci := 12) (by decide) rfl rfl (Nat.le_of_ble_eq_true rfl) ⟨⟨by decide, by decide⟩, by decide, by decide⟩ (cmX12_isOld hr hq1) (fun h hr => ?_)
  refine rw_if_eq (tgt := 9) dX12_crosses_4 (by decide) (fun c2 => ?_) (fun c2 => ?_)
  · rw [if_pos c2] at hf
    refine rw_iconst (v := 0) dX12_crosses_9 (by decide) ?_
    refine rw_istore_n (lv2 := [(1, .int 0), (0, .ref (ad 43))]) dX12_crosses_10 rfl (by decide) rfl ?_
    refine rw_iconst (v := 0) dX12_crosses_11 (by decide) ?_
    refine rw_istore_n (lv2 := [(2, .int 0), (1, .int 0), (0, .ref (ad 43))]) dX12_crosses_12 rfl (by decide) rfl ?_
    refine rw_sub [2, 1, 0] rfl ?_
    exact t_lX12_crosses_13 (ad := ad) (G := G)  1000 0 0 q1.2 _ hr hf
  · rw [if_neg c2] at hf
    refine rw_iconst (v := 0) dX12_crosses_7 (by decide) ?_
    replace hf := Option.some.inj hf
    subst hf
    exact rw_zreturn dX12_crosses_8 rfl (by decide) ⟨rfl, hr⟩ (by decide) (by decide)
def jX12_bed_215  (s0 : Int32) (σ : rS) : Option (Int32 × rS) := some (s0, σ)
set_option maxHeartbeats 4000000 in
theorem t_jX12_bed_215 {G : rG} {ad : Nat → Nat} {o : (Int32 × rS)}   (s0 : Int32) (σ : rS) (h : rH) (hr : Rep G ad σ h) (hf : jX12_bed_215  s0 σ = some o) : RW G mX12_bed (rm 2 0 0) (qI G ad o) xN 0 0 215 [] [.int s0] h := by
  unfold jX12_bed_215 at hf
  replace hf := Option.some.inj hf
  subst hf
  exact rw_ireturn dX12_bed_215 rfl ⟨rfl, hr⟩ (by decide) (by decide)
def jX12_bed_144 (k66 : Int32 → Int32 → Int32 → Int32 → Int32 → rS → Option (Int32 × rS)) (v1 : Int32) (v2 : Int32) (v4 : Int32) (v5 : Int32) (s0 : Int32) (s1 : Int32) (σ : rS) : Option (Int32 × rS) := vI (s1 + s0) fun x28 => vI (v5 + 1) fun x29 => k66 v1 v2 x28 v4 x29 σ
set_option maxHeartbeats 4000000 in
theorem t_jX12_bed_144 {G : rG} {ad : Nat → Nat} {o : (Int32 × rS)} (k66 : Int32 → Int32 → Int32 → Int32 → Int32 → rS → Option (Int32 × rS)) (hk66 : ∀ (v1 : Int32) (v2 : Int32) (v3 : Int32) (v4 : Int32) (v5 : Int32) (σ : rS) (h : rH), Rep G ad σ h → k66 v1 v2 v3 v4 v5 σ = some o → RW G mX12_bed (rm 2 0 0) (qI G ad o) xN 0 0 66 [(0, .ref (ad 43)), (1, .int v1), (2, .int v2), (3, .int v3), (4, .int v4), (5, .int v5)] [] h) (v1 : Int32) (v2 : Int32) (v4 : Int32) (v5 : Int32) (s0 : Int32) (s1 : Int32) (σ : rS) (h : rH) (hr : Rep G ad σ h) (hf : jX12_bed_144 k66 v1 v2 v4 v5 s0 s1 σ = some o) : RW G mX12_bed (rm 2 0 0) (qI G ad o) xN 0 0 144 [(0, .ref (ad 43)), (1, .int v1), (2, .int v2), (4, .int v4), (5, .int v5)] [.int s0, .int s1] h := by
  unfold jX12_bed_144 at hf
  refine rw_iadd dX12_bed_144 ?_
  refine nmI hf (fun x28 hf => ?_)
  refine rw_istore_n (lv2 := [(3, .int x28), (0, .ref (ad 43)), (1, .int v1), (2, .int v2), (4, .int v4), (5, .int v5)]) dX12_bed_145 rfl (by decide) rfl ?_
  refine rw_iinc (v := v5 + 1) (lv2 := [(5, .int (v5 + 1)), (3, .int x28), (0, .ref (ad 43)), (1, .int v1), (2, .int v2), (4, .int v4)]) dX12_bed_146 5 rfl rfl (by decide) rfl ?_
  refine nmL hf (fun x29 hf => ?_)
  refine rw_goto (tgt := 66) dX12_bed_149 (by decide) ?_
  refine rw_sub [2, 3, 4, 1, 5, 0] rfl ?_
  exact hk66 v1 v2 x28 v4 x29 σ _ hr hf
def jX12_bed_117 (k66 : Int32 → Int32 → Int32 → Int32 → Int32 → rS → Option (Int32 × rS)) (k81 : Int32 → Int32 → Int32 → Int32 → Int32 → Int32 → Int32 → rS → Option (Int32 × rS)) (v1 : Int32) (v2 : Int32) (v3 : Int32) (v4 : Int32) (v5 : Int32) (v7 : Int32) (s0 : Int32) (s1 : Int32) (σ : rS) : Option (Int32 × rS) := vI (s1 + s0) fun x30 => vI (v7 + 1) fun x31 => k81 v1 v2 v3 v4 v5 x30 x31 σ
set_option maxHeartbeats 4000000 in
theorem t_jX12_bed_117 {G : rG} {ad : Nat → Nat} {o : (Int32 × rS)} (k66 : Int32 → Int32 → Int32 → Int32 → Int32 → rS → Option (Int32 × rS)) (k81 : Int32 → Int32 → Int32 → Int32 → Int32 → Int32 → Int32 → rS → Option (Int32 × rS)) (hk66 : ∀ (v1 : Int32) (v2 : Int32) (v3 : Int32) (v4 : Int32) (v5 : Int32) (σ : rS) (h : rH), Rep G ad σ h → k66 v1 v2 v3 v4 v5 σ = some o → RW G mX12_bed (rm 2 0 0) (qI G ad o) xN 0 0 66 [(0, .ref (ad 43)), (1, .int v1), (2, .int v2), (3, .int v3), (4, .int v4), (5, .int v5)] [] h) (hk81 : ∀ (v1 : Int32) (v2 : Int32) (v3 : Int32) (v4 : Int32) (v5 : Int32) (v6 : Int32) (v7 : Int32) (σ : rS) (h : rH), Rep G ad σ h → k81 v1 v2 v3 v4 v5 v6 v7 σ = some o → RW G mX12_bed (rm 2 0 0) (qI G ad o) xN 0 0 81 [(0, .ref (ad 43)), (1, .int v1), (2, .int v2), (3, .int v3), (4, .int v4), (5, .int v5), (6, .int v6), (7, .int v7)] [] h) (v1 : Int32) (v2 : Int32) (v3 : Int32) (v4 : Int32) (v5 : Int32) (v7 : Int32) (s0 : Int32) (s1 : Int32) (σ : rS) (h : rH) (hr : Rep G ad σ h) (hf : jX12_bed_117 k66 k81 v1 v2 v3 v4 v5 v7 s0 s1 σ = some o) : RW G mX12_bed (rm 2 0 0) (qI G ad o) xN 0 0 117 [(0, .ref (ad 43)), (1, .int v1), (2, .int v2), (3, .int v3), (4, .int v4), (5, .int v5), (7, .int v7)] [.int s0, .int s1] h := by
  unfold jX12_bed_117 at hf
  refine rw_iadd dX12_bed_117 ?_
  refine nmI hf (fun x30 hf => ?_)
  refine rw_istore (lv2 := [(6, .int x30), (0, .ref (ad 43)), (1, .int v1), (2, .int v2), (3, .int v3), (4, .int v4), (5, .int v5), (7, .int v7)]) dX12_bed_118 (by decide) rfl ?_
  refine rw_iinc (v := v7 + 1) (lv2 := [(7, .int (v7 + 1)), (6, .int x30), (0, .ref (ad 43)), (1, .int v1), (2, .int v2), (3, .int v3), (4, .int v4), (5, .int v5)]) dX12_bed_120 7 rfl rfl (by decide) rfl ?_
  refine nmL hf (fun x31 hf => ?_)
  refine rw_goto (tgt := 81) dX12_bed_123 (by decide) ?_
  refine rw_sub [2, 3, 4, 5, 6, 7, 1, 0] rfl ?_
  exact hk81 v1 v2 v3 v4 v5 x30 x31 σ _ hr hf
def lX12_bed_81 (k66 : Int32 → Int32 → Int32 → Int32 → Int32 → rS → Option (Int32 × rS)) : Nat → Int32 → Int32 → Int32 → Int32 → Int32 → Int32 → Int32 → rS → Option (Int32 × rS)
  | 0, _, _, _, _, _, _, _, _ => none
  | n + 1, v1, v2, v3, v4, v5, v6, v7, σ => if inB v5 16 then (if (σ.2.2.1 47 v5.toNatClampNeg) ≤ v7 then vI (v4 + v6) fun x24 => if v6 ≤ 0 then jX12_bed_144 k66 v1 v2 x24 v5 0 v3 σ else jX12_bed_144 k66 v1 v2 x24 v5 1 v3 σ else if inB ((12 * v5) + v7) 192 then (if (σ.2.2.1 60 ((12 * v5) + v7).toNatClampNeg) = v1 then jX12_bed_117 k66 (lX12_bed_81 k66 n) v1 v2 v3 v4 v5 v7 1 v6 σ else jX12_bed_117 k66 (lX12_bed_81 k66 n) v1 v2 v3 v4 v5 v7 0 v6 σ) else none) else none
set_option maxHeartbeats 4000000 in
theorem t_lX12_bed_81 {G : rG} {ad : Nat → Nat} {o : (Int32 × rS)} (k66 : Int32 → Int32 → Int32 → Int32 → Int32 → rS → Option (Int32 × rS)) (hk66 : ∀ (v1 : Int32) (v2 : Int32) (v3 : Int32) (v4 : Int32) (v5 : Int32) (σ : rS) (h : rH), Rep G ad σ h → k66 v1 v2 v3 v4 v5 σ = some o → RW G mX12_bed (rm 2 0 0) (qI G ad o) xN 0 0 66 [(0, .ref (ad 43)), (1, .int v1), (2, .int v2), (3, .int v3), (4, .int v4), (5, .int v5)] [] h) : ∀ (n : Nat) (v1 : Int32) (v2 : Int32) (v3 : Int32) (v4 : Int32) (v5 : Int32) (v6 : Int32) (v7 : Int32) (σ : rS) (h : rH), Rep G ad σ h → lX12_bed_81 k66 n v1 v2 v3 v4 v5 v6 v7 σ = some o → RW G mX12_bed (rm 2 0 0) (qI G ad o) xN 0 0 81 [(0, .ref (ad 43)), (1, .int v1), (2, .int v2), (3, .int v3), (4, .int v4), (5, .int v5), (6, .int v6), (7, .int v7)] [] h := by
  intro n
  induction n with
  | zero =>
    intro v1 v2 v3 v4 v5 v6 v7 σ h hr hf
    rw [lX12_bed_81] at hf
    cases hf
  | succ n ih =>
    intro v1 v2 v3 v4 v5 v6 v7 σ h hr hf
    rw [lX12_bed_81] at hf
    refine rw_iload dX12_bed_81 7 rfl ?_
    refine rw_aload_n dX12_bed_83 0 rfl rfl ?_
    refine sg_43_6 hr dX12_bed_84 fl1468 ?_
    refine rw_iload dX12_bed_87 5 rfl ?_
    obtain ⟨hi22, hf⟩ := grd hf
    refine sl_47 hr dX12_bed_89 (inB_in hi22) ?_
    refine rw_icmp_ge (tgt := 126) dX12_bed_90 (by decide) (fun c23 => ?_) (fun c23 => ?_)
    · rw [if_pos c23] at hf
      refine rw_iload dX12_bed_126 4 rfl ?_
      refine rw_iload dX12_bed_128 6 rfl ?_
      refine rw_iadd dX12_bed_130 ?_
      refine nmI hf (fun x24 hf => ?_)
      refine rw_istore (lv2 := [(4, .int x24), (0, .ref (ad 43)), (1, .int v1), (2, .int v2), (3, .int v3), (5, .int v5), (6, .int v6), (7, .int v7)]) dX12_bed_131 (by decide) rfl ?_
      refine rw_iload_n dX12_bed_133 4 rfl rfl ?_
      refine rw_iload dX12_bed_134 6 rfl ?_
      refine rw_if_le (tgt := 143) dX12_bed_136 (by decide) (fun c25 => ?_) (fun c25 => ?_)
      · rw [if_pos c25] at hf
        refine rw_iconst (v := 0) dX12_bed_143 (by decide) ?_
        refine rw_sub [1, 2, 3, 0, 5] rfl ?_
        exact t_jX12_bed_144 (ad := ad) (G := G) k66 hk66 v1 v2 x24 v5 0 v3 σ _ hr hf
      · rw [if_neg c25] at hf
        refine rw_iconst (v := 1) dX12_bed_139 (by decide) ?_
        refine rw_goto (tgt := 144) dX12_bed_140 (by decide) ?_
        refine rw_sub [1, 2, 3, 0, 5] rfl ?_
        exact t_jX12_bed_144 (ad := ad) (G := G) k66 hk66 v1 v2 x24 v5 1 v3 σ _ hr hf
    · rw [if_neg c23] at hf
      refine rw_iload dX12_bed_93 6 rfl ?_
      refine rw_aload_n dX12_bed_95 0 rfl rfl ?_
      refine sg_43_26 hr dX12_bed_96 fl1488 ?_
      refine rw_bipush (v := 12) dX12_bed_99 (by decide) ?_
      refine rw_iload dX12_bed_101 5 rfl ?_
      refine rw_imul dX12_bed_103 ?_
      refine rw_iload dX12_bed_104 7 rfl ?_
      refine rw_iadd dX12_bed_106 ?_
      obtain ⟨hi26, hf⟩ := grd hf
      refine sl_60 hr dX12_bed_107 (inB_in hi26) ?_
      refine rw_iload_n dX12_bed_108 1 rfl rfl ?_
      refine rw_icmp_ne (tgt := 116) dX12_bed_109 (by decide) (fun c27 => ?_) (fun c27 => ?_)
      · rw [if_neg c27] at hf
        refine rw_iconst (v := 0) dX12_bed_116 (by decide) ?_
        refine rw_sub [0, 1, 2, 3, 4, 5, 7] rfl ?_
        exact t_jX12_bed_117 (ad := ad) (G := G) k66 (lX12_bed_81 k66 n) hk66 ih v1 v2 v3 v4 v5 v7 0 v6 σ _ hr hf
      · rw [if_pos c27] at hf
        refine rw_iconst (v := 1) dX12_bed_112 (by decide) ?_
        refine rw_goto (tgt := 117) dX12_bed_113 (by decide) ?_
        refine rw_sub [0, 1, 2, 3, 4, 5, 7] rfl ?_
        exact t_jX12_bed_117 (ad := ad) (G := G) k66 (lX12_bed_81 k66 n) hk66 ih v1 v2 v3 v4 v5 v7 1 v6 σ _ hr hf
def lX12_bed_66  : Nat → Int32 → Int32 → Int32 → Int32 → Int32 → rS → Option (Int32 × rS)
  | 0, _, _, _, _, _, _ => none
  | n + 1, v1, v2, v3, v4, v5, σ => if (σ.1 43 2) ≤ v5 then if v2 = 0 then if inB v1 192 then if inB (σ.2.2.1 61 v1.toNatClampNeg) 192 then jX12_bed_215 (σ.2.2.1 48 (σ.2.2.1 61 v1.toNatClampNeg).toNatClampNeg) σ else none else none else if v2 = 1 then jX12_bed_215 v3 σ else if v2 = 2 then jX12_bed_215 v4 σ else if v2 = 3 then if inB v1 192 then jX12_bed_215 ((σ.2.2.1 61 v1.toNatClampNeg) / 12) σ else none else if inB v1 192 then jX12_bed_215 ((σ.2.2.1 61 v1.toNatClampNeg) - (σ.2.2.1 61 v1.toNatClampNeg) / 12 * 12) σ else none else lX12_bed_81 (lX12_bed_66 n) 1000 v1 v2 v3 v4 v5 0 0 σ
set_option maxHeartbeats 4000000 in
theorem t_lX12_bed_66 {G : rG} {ad : Nat → Nat} {o : (Int32 × rS)}   : ∀ (n : Nat) (v1 : Int32) (v2 : Int32) (v3 : Int32) (v4 : Int32) (v5 : Int32) (σ : rS) (h : rH), Rep G ad σ h → lX12_bed_66  n v1 v2 v3 v4 v5 σ = some o → RW G mX12_bed (rm 2 0 0) (qI G ad o) xN 0 0 66 [(0, .ref (ad 43)), (1, .int v1), (2, .int v2), (3, .int v3), (4, .int v4), (5, .int v5)] [] h := by
  intro n
  induction n with
  | zero =>
    intro v1 v2 v3 v4 v5 σ h hr hf
    rw [lX12_bed_66] at hf
    cases hf
  | succ n ih =>
    intro v1 v2 v3 v4 v5 σ h hr hf
    rw [lX12_bed_66] at hf
    refine rw_iload dX12_bed_66 5 rfl ?_
    refine rw_aload_n dX12_bed_68 0 rfl rfl ?_
    refine sg_43_2 hr dX12_bed_69 fl1464 ?_
    refine rw_icmp_ge (tgt := 152) dX12_bed_72 (by decide) (fun c11 => ?_) (fun c11 => ?_)
    · rw [if_pos c11] at hf
      refine rw_iload_n dX12_bed_152 2 rfl rfl ?_
      refine rw_if_ne (tgt := 170) dX12_bed_153 (by decide) (fun c12 => ?_) (fun c12 => ?_)
      · rw [if_neg c12] at hf
        refine rw_iload_n dX12_bed_170 2 rfl rfl ?_
        refine rw_iconst (v := 1) dX12_bed_171 (by decide) ?_
        refine rw_icmp_ne (tgt := 179) dX12_bed_172 (by decide) (fun c13 => ?_) (fun c13 => ?_)
        · rw [if_neg c13] at hf
          refine rw_iload_n dX12_bed_179 2 rfl rfl ?_
          refine rw_iconst (v := 2) dX12_bed_180 (by decide) ?_
          refine rw_icmp_ne (tgt := 189) dX12_bed_181 (by decide) (fun c14 => ?_) (fun c14 => ?_)
          · rw [if_neg c14] at hf
            refine rw_iload_n dX12_bed_189 2 rfl rfl ?_
            refine rw_iconst (v := 3) dX12_bed_190 (by decide) ?_
            refine rw_icmp_ne (tgt := 206) dX12_bed_191 (by decide) (fun c15 => ?_) (fun c15 => ?_)
            · rw [if_neg c15] at hf
              refine rw_aload_n dX12_bed_206 0 rfl rfl ?_
              refine sg_43_27 hr dX12_bed_207 fl1489 ?_
              refine rw_iload_n dX12_bed_210 1 rfl rfl ?_
              obtain ⟨hi16, hf⟩ := grd hf
              refine sl_61 hr dX12_bed_211 (inB_in hi16) ?_
              refine rw_bipush (v := 12) dX12_bed_212 (by decide) ?_
              refine rw_irem dX12_bed_214 (by decide) ?_
              refine rw_sub [] rfl ?_
              exact t_jX12_bed_215 (ad := ad) (G := G)  ((σ.2.2.1 61 v1.toNatClampNeg) - (σ.2.2.1 61 v1.toNatClampNeg) / 12 * 12) σ _ hr hf
            · rw [if_pos c15] at hf
              refine rw_aload_n dX12_bed_194 0 rfl rfl ?_
              refine sg_43_27 hr dX12_bed_195 fl1489 ?_
              refine rw_iload_n dX12_bed_198 1 rfl rfl ?_
              obtain ⟨hi18, hf⟩ := grd hf
              refine sl_61 hr dX12_bed_199 (inB_in hi18) ?_
              refine rw_bipush (v := 12) dX12_bed_200 (by decide) ?_
              refine rw_idiv dX12_bed_202 (by decide) ?_
              refine rw_goto (tgt := 215) dX12_bed_203 (by decide) ?_
              refine rw_sub [] rfl ?_
              exact t_jX12_bed_215 (ad := ad) (G := G)  ((σ.2.2.1 61 v1.toNatClampNeg) / 12) σ _ hr hf
          · rw [if_pos c14] at hf
            refine rw_iload dX12_bed_184 4 rfl ?_
            refine rw_goto (tgt := 215) dX12_bed_186 (by decide) ?_
            refine rw_sub [] rfl ?_
            exact t_jX12_bed_215 (ad := ad) (G := G)  v4 σ _ hr hf
        · rw [if_pos c13] at hf
          refine rw_iload_n dX12_bed_175 3 rfl rfl ?_
          refine rw_goto (tgt := 215) dX12_bed_176 (by decide) ?_
          refine rw_sub [] rfl ?_
          exact t_jX12_bed_215 (ad := ad) (G := G)  v3 σ _ hr hf
      · rw [if_pos c12] at hf
        refine rw_aload_n dX12_bed_156 0 rfl rfl ?_
        refine sg_43_7 hr dX12_bed_157 fl1469 ?_
        refine rw_aload_n dX12_bed_160 0 rfl rfl ?_
        refine sg_43_27 hr dX12_bed_161 fl1489 ?_
        refine rw_iload_n dX12_bed_164 1 rfl rfl ?_
        obtain ⟨hi20, hf⟩ := grd hf
        refine sl_61 hr dX12_bed_165 (inB_in hi20) ?_
        obtain ⟨hi21, hf⟩ := grd hf
        refine sl_48 hr dX12_bed_166 (inB_in hi21) ?_
        refine rw_goto (tgt := 215) dX12_bed_167 (by decide) ?_
        refine rw_sub [] rfl ?_
        exact t_jX12_bed_215 (ad := ad) (G := G)  (σ.2.2.1 48 (σ.2.2.1 61 v1.toNatClampNeg).toNatClampNeg) σ _ hr hf
    · rw [if_neg c11] at hf
      refine rw_iconst (v := 0) dX12_bed_75 (by decide) ?_
      refine rw_istore (lv2 := [(6, .int 0), (0, .ref (ad 43)), (1, .int v1), (2, .int v2), (3, .int v3), (4, .int v4), (5, .int v5)]) dX12_bed_76 (by decide) rfl ?_
      refine rw_iconst (v := 0) dX12_bed_78 (by decide) ?_
      refine rw_istore (lv2 := [(7, .int 0), (6, .int 0), (0, .ref (ad 43)), (1, .int v1), (2, .int v2), (3, .int v3), (4, .int v4), (5, .int v5)]) dX12_bed_79 (by decide) rfl ?_
      refine rw_sub [2, 3, 4, 5, 6, 7, 1, 0] rfl ?_
      exact t_lX12_bed_81 (ad := ad) (G := G) (lX12_bed_66 n) ih 1000 v1 v2 v3 v4 v5 0 0 σ _ hr hf
def jX12_bed_56   (σ : rS) : Option (Int32 × rS) := some (0, σ)
set_option maxHeartbeats 4000000 in
theorem t_jX12_bed_56 {G : rG} {ad : Nat → Nat} {o : (Int32 × rS)}    (σ : rS) (h : rH) (hr : Rep G ad σ h) (hf : jX12_bed_56   σ = some o) : RW G mX12_bed (rm 2 0 0) (qI G ad o) xN 0 0 56 [] [] h := by
  unfold jX12_bed_56 at hf
  refine rw_iconst (v := 0) dX12_bed_56 (by decide) ?_
  replace hf := Option.some.inj hf
  subst hf
  exact rw_ireturn dX12_bed_57 rfl ⟨rfl, hr⟩ (by decide) (by decide)
def jX12_bed_49  (v1 : Int32) (v2 : Int32) (s0 : Int32) (σ : rS) : Option (Int32 × rS) := (fX12_fails s0 3 σ).bind fun q9 => if q9.1 = 0 then lX12_bed_66 1000 v1 v2 0 0 0 q9.2 else jX12_bed_56 q9.2
set_option maxHeartbeats 4000000 in
theorem t_jX12_bed_49 {G : rG} {ad : Nat → Nat} {o : (Int32 × rS)}   (v1 : Int32) (v2 : Int32) (s0 : Int32) (σ : rS) (h : rH) (hr : Rep G ad σ h) (hf : jX12_bed_49  v1 v2 s0 σ = some o) : RW G mX12_bed (rm 2 0 0) (qI G ad o) xN 0 0 49 [(0, .ref (ad 43)), (1, .int v1), (2, .int v2)] [.int s0, .ref (ad 43)] h := by
  unfold jX12_bed_49 at hf
  refine rw_iconst (v := 3) dX12_bed_49 (by decide) ?_
  obtain ⟨q9, hq9, hf⟩ := bnd hf
  refine kV_I (ad := ad) (As := [.int s0, .int 3]) (st := []) dX12_bed_50 calX12_fails wm1728 wm1730 wm46 rfl rfl (rc_43 hr) (ci := 12) (by decide) rfl rfl (Nat.le_of_ble_eq_true rfl) ⟨⟨by decide, by decide⟩, by decide, by decide⟩ (cmX12_fails hr hq9) (fun h hr => ?_)
  refine rw_if_eq (tgt := 58) dX12_bed_53 (by decide) (fun c10 => ?_) (fun c10 => ?_)
  · rw [if_pos c10] at hf
    refine rw_iconst (v := 0) dX12_bed_58 (by decide) ?_
    refine rw_istore_n (lv2 := [(3, .int 0), (0, .ref (ad 43)), (1, .int v1), (2, .int v2)]) dX12_bed_59 rfl (by decide) rfl ?_
    refine rw_iconst (v := 0) dX12_bed_60 (by decide) ?_
    refine rw_istore (lv2 := [(4, .int 0), (3, .int 0), (0, .ref (ad 43)), (1, .int v1), (2, .int v2)]) dX12_bed_61 (by decide) rfl ?_
    refine rw_iconst (v := 0) dX12_bed_63 (by decide) ?_
    refine rw_istore (lv2 := [(5, .int 0), (4, .int 0), (3, .int 0), (0, .ref (ad 43)), (1, .int v1), (2, .int v2)]) dX12_bed_64 (by decide) rfl ?_
    refine rw_sub [3, 4, 5, 2, 1, 0] rfl ?_
    exact t_lX12_bed_66 (ad := ad) (G := G)  1000 v1 v2 0 0 0 q9.2 _ hr hf
  · rw [if_neg c10] at hf
    refine rw_sub [] rfl ?_
    exact t_jX12_bed_56 (ad := ad) (G := G)  q9.2 _ hr hf
def jX12_bed_27  (v1 : Int32) (v2 : Int32) (s0 : Int32) (σ : rS) : Option (Int32 × rS) := (fX12_fails s0 2 σ).bind fun q5 => if q5.1 = 0 then (fX12_in v2 0 4 q5.2).bind fun q7 => if q7.1 = 0 then jX12_bed_49 v1 v2 1 q7.2 else jX12_bed_49 v1 v2 0 q7.2 else jX12_bed_56 q5.2
set_option maxHeartbeats 4000000 in
theorem t_jX12_bed_27 {G : rG} {ad : Nat → Nat} {o : (Int32 × rS)}   (v1 : Int32) (v2 : Int32) (s0 : Int32) (σ : rS) (h : rH) (hr : Rep G ad σ h) (hf : jX12_bed_27  v1 v2 s0 σ = some o) : RW G mX12_bed (rm 2 0 0) (qI G ad o) xN 0 0 27 [(0, .ref (ad 43)), (1, .int v1), (2, .int v2)] [.int s0, .ref (ad 43)] h := by
  unfold jX12_bed_27 at hf
  refine rw_iconst (v := 2) dX12_bed_27 (by decide) ?_
  obtain ⟨q5, hq5, hf⟩ := bnd hf
  refine kV_I (ad := ad) (As := [.int s0, .int 2]) (st := []) dX12_bed_28 calX12_fails wm1728 wm1730 wm46 rfl rfl (rc_43 hr) (ci := 12) (by decide) rfl rfl (Nat.le_of_ble_eq_true rfl) ⟨⟨by decide, by decide⟩, by decide, by decide⟩ (cmX12_fails hr hq5) (fun h hr => ?_)
  refine rw_if_ne (tgt := 56) dX12_bed_31 (by decide) (fun c6 => ?_) (fun c6 => ?_)
  · rw [if_neg c6] at hf
    refine rw_sub [] rfl ?_
    exact t_jX12_bed_56 (ad := ad) (G := G)  q5.2 _ hr hf
  · rw [if_pos c6] at hf
    refine rw_aload_n dX12_bed_34 0 rfl rfl ?_
    refine rw_iload_n dX12_bed_35 2 rfl rfl ?_
    refine rw_iconst (v := 0) dX12_bed_36 (by decide) ?_
    refine rw_iconst (v := 4) dX12_bed_37 (by decide) ?_
    obtain ⟨q7, hq7, hf⟩ := bnd hf
    refine kS_I (ad := ad) (As := [.int v2, .int 0, .int 4]) (st := [.ref (ad 43)]) dX12_bed_38 calX12_in wm1612 wm1613 rfl rfl (Nat.le_of_ble_eq_true rfl) ⟨⟨by decide, by decide⟩, by decide, by decide⟩ (cmX12_in hr hq7) (fun h hr => ?_)
    refine rw_if_ne (tgt := 48) dX12_bed_41 (by decide) (fun c8 => ?_) (fun c8 => ?_)
    · rw [if_neg c8] at hf
      refine rw_iconst (v := 0) dX12_bed_48 (by decide) ?_
      exact t_jX12_bed_49 (ad := ad) (G := G)  v1 v2 0 q7.2 _ hr hf
    · rw [if_pos c8] at hf
      refine rw_iconst (v := 1) dX12_bed_44 (by decide) ?_
      refine rw_goto (tgt := 49) dX12_bed_45 (by decide) ?_
      exact t_jX12_bed_49 (ad := ad) (G := G)  v1 v2 1 q7.2 _ hr hf
def fX12_bed (a0 : Int32) (a1 : Int32) (σ : rS) : Option (Int32 × rS) := (fX12_isOld σ).bind fun q1 => if q1.1 = 0 then (fX12_in a0 0 ((q1.2.1 43 25) - 1) q1.2).bind fun q3 => if q3.1 = 0 then jX12_bed_27 a0 a1 1 q3.2 else jX12_bed_27 a0 a1 0 q3.2 else jX12_bed_56 q1.2
set_option maxHeartbeats 4000000 in
theorem cmX12_bed {G : rG} {ad : Nat → Nat} {a0 : Int32} {a1 : Int32} {σ : rS} {h : rH} {o : (Int32 × rS)} (hr : Rep G ad σ h) (hf : fX12_bed a0 a1 σ = some o) : rMT G mX12_bed (rm 2 0 0) [.ref (ad 43), .int a0, .int a1] h (qI G ad o) xN := by
  unfold fX12_bed at hf
  refine rw_met (by decide +kernel) rfl (Nat.le_of_ble_eq_true rfl) ?_
  show RW G _ _ _ _ 0 0 0 [(0, .ref (ad 43)), (1, .int a0), (2, .int a1)] [] h
  refine rw_aload_n dX12_bed_0 0 rfl rfl ?_
  obtain ⟨q1, hq1, hf⟩ := bnd hf
  refine kV_I (ad := ad) (As := []) (st := []) dX12_bed_1 calX12_isOld wm1724 wm1726 wm45 rfl rfl (rc_43 hr) (ci := 12) (by decide) rfl rfl (Nat.le_of_ble_eq_true rfl) ⟨⟨by decide, by decide⟩, by decide, by decide⟩ (cmX12_isOld hr hq1) (fun h hr => ?_)
  refine rw_if_ne (tgt := 56) dX12_bed_4 (by decide) (fun c2 => ?_) (fun c2 => ?_)
  · rw [if_neg c2] at hf
    refine rw_sub [] rfl ?_
    exact t_jX12_bed_56 (ad := ad) (G := G)  q1.2 _ hr hf
  · rw [if_pos c2] at hf
    refine rw_aload_n dX12_bed_7 0 rfl rfl ?_
    refine rw_iload_n dX12_bed_8 1 rfl rfl ?_
    refine rw_iconst (v := 0) dX12_bed_9 (by decide) ?_
    refine rw_aload_n dX12_bed_10 0 rfl rfl ?_
    refine sg_43_25 hr dX12_bed_11 fl1487 ?_
    refine rw_iconst (v := 1) dX12_bed_14 (by decide) ?_
    refine rw_isub dX12_bed_15 ?_
    obtain ⟨q3, hq3, hf⟩ := bnd hf
    refine kS_I (ad := ad) (As := [.int a0, .int 0, .int ((q1.2.1 43 25) - 1)]) (st := [.ref (ad 43)]) dX12_bed_16 calX12_in wm1612 wm1613 rfl rfl (Nat.le_of_ble_eq_true rfl) ⟨⟨by decide, by decide⟩, by decide, by decide⟩ (cmX12_in hr hq3) (fun h hr => ?_)
    refine rw_if_ne (tgt := 26) dX12_bed_19 (by decide) (fun c4 => ?_) (fun c4 => ?_)
    · rw [if_neg c4] at hf
      refine rw_iconst (v := 0) dX12_bed_26 (by decide) ?_
      exact t_jX12_bed_27 (ad := ad) (G := G)  a0 a1 0 q3.2 _ hr hf
    · rw [if_pos c4] at hf
      refine rw_iconst (v := 1) dX12_bed_22 (by decide) ?_
      refine rw_goto (tgt := 27) dX12_bed_23 (by decide) ?_
      exact t_jX12_bed_27 (ad := ad) (G := G)  a0 a1 1 q3.2 _ hr hf
def jX12_bedOf_44   (σ : rS) : Option (Int32 × rS) := some (0, σ)
set_option maxHeartbeats 4000000 in
theorem t_jX12_bedOf_44 {G : rG} {ad : Nat → Nat} {o : (Int32 × rS)}    (σ : rS) (h : rH) (hr : Rep G ad σ h) (hf : jX12_bedOf_44   σ = some o) : RW G mX12_bedOf (rm 2 0 0) (qI G ad o) xN 0 0 44 [] [] h := by
  unfold jX12_bedOf_44 at hf
  refine rw_iconst (v := 0) dX12_bedOf_44 (by decide) ?_
  replace hf := Option.some.inj hf
  subst hf
  exact rw_ireturn dX12_bedOf_45 rfl ⟨rfl, hr⟩ (by decide) (by decide)
def jX12_bedOf_37  (v1 : Int32) (v2 : Int32) (s0 : Int32) (σ : rS) : Option (Int32 × rS) := (fX12_fails s0 2 σ).bind fun q8 => if q8.1 = 0 then if inB ((12 * v1) + v2) 192 then some ((q8.2.2.2.1 60 ((12 * v1) + v2).toNatClampNeg), q8.2) else none else jX12_bedOf_44 q8.2
set_option maxHeartbeats 4000000 in
theorem t_jX12_bedOf_37 {G : rG} {ad : Nat → Nat} {o : (Int32 × rS)}   (v1 : Int32) (v2 : Int32) (s0 : Int32) (σ : rS) (h : rH) (hr : Rep G ad σ h) (hf : jX12_bedOf_37  v1 v2 s0 σ = some o) : RW G mX12_bedOf (rm 2 0 0) (qI G ad o) xN 0 0 37 [(0, .ref (ad 43)), (1, .int v1), (2, .int v2)] [.int s0, .ref (ad 43)] h := by
  unfold jX12_bedOf_37 at hf
  refine rw_iconst (v := 2) dX12_bedOf_37 (by decide) ?_
  obtain ⟨q8, hq8, hf⟩ := bnd hf
  refine kV_I (ad := ad) (As := [.int s0, .int 2]) (st := []) dX12_bedOf_38 calX12_fails wm1728 wm1730 wm46 rfl rfl (rc_43 hr) (ci := 12) (by decide) rfl rfl (Nat.le_of_ble_eq_true rfl) ⟨⟨by decide, by decide⟩, by decide, by decide⟩ (cmX12_fails hr hq8) (fun h hr => ?_)
  refine rw_if_eq (tgt := 46) dX12_bedOf_41 (by decide) (fun c9 => ?_) (fun c9 => ?_)
  · rw [if_pos c9] at hf
    refine rw_aload_n dX12_bedOf_46 0 rfl rfl ?_
    refine sg_43_26 hr dX12_bedOf_47 fl1488 ?_
    refine rw_bipush (v := 12) dX12_bedOf_50 (by decide) ?_
    refine rw_iload_n dX12_bedOf_52 1 rfl rfl ?_
    refine rw_imul dX12_bedOf_53 ?_
    refine rw_iload_n dX12_bedOf_54 2 rfl rfl ?_
    refine rw_iadd dX12_bedOf_55 ?_
    obtain ⟨hi10, hf⟩ := grd hf
    refine sl_60 hr dX12_bedOf_56 (inB_in hi10) ?_
    replace hf := Option.some.inj hf
    subst hf
    exact rw_ireturn dX12_bedOf_57 rfl ⟨rfl, hr⟩ (by decide) (by decide)
  · rw [if_neg c9] at hf
    refine rw_sub [] rfl ?_
    exact t_jX12_bedOf_44 (ad := ad) (G := G)  q8.2 _ hr hf
def jX12_bedOf_32  (v1 : Int32) (v2 : Int32) (σ : rS) : Option (Int32 × rS) := jX12_bedOf_37 v1 v2 1 σ
set_option maxHeartbeats 4000000 in
theorem t_jX12_bedOf_32 {G : rG} {ad : Nat → Nat} {o : (Int32 × rS)}   (v1 : Int32) (v2 : Int32) (σ : rS) (h : rH) (hr : Rep G ad σ h) (hf : jX12_bedOf_32  v1 v2 σ = some o) : RW G mX12_bedOf (rm 2 0 0) (qI G ad o) xN 0 0 32 [(0, .ref (ad 43)), (1, .int v1), (2, .int v2)] [.ref (ad 43)] h := by
  unfold jX12_bedOf_32 at hf
  refine rw_iconst (v := 1) dX12_bedOf_32 (by decide) ?_
  refine rw_goto (tgt := 37) dX12_bedOf_33 (by decide) ?_
  exact t_jX12_bedOf_37 (ad := ad) (G := G)  v1 v2 1 σ _ hr hf
def fX12_bedOf (a0 : Int32) (a1 : Int32) (σ : rS) : Option (Int32 × rS) := (fX12_isOld σ).bind fun q1 => if q1.1 = 0 then (fX12_isBoring a0 q1.2).bind fun q3 => if q3.1 = 0 then jX12_bedOf_32 a0 a1 q3.2 else if inB a0 16 then (fX12_in a1 0 ((q3.2.2.2.1 47 a0.toNatClampNeg) - 1) q3.2).bind fun q6 => (if q6.1 = 0 then jX12_bedOf_32 a0 a1 q6.2 else jX12_bedOf_37 a0 a1 0 q6.2) else none else jX12_bedOf_44 q1.2
set_option maxHeartbeats 4000000 in
theorem cmX12_bedOf {G : rG} {ad : Nat → Nat} {a0 : Int32} {a1 : Int32} {σ : rS} {h : rH} {o : (Int32 × rS)} (hr : Rep G ad σ h) (hf : fX12_bedOf a0 a1 σ = some o) : rMT G mX12_bedOf (rm 2 0 0) [.ref (ad 43), .int a0, .int a1] h (qI G ad o) xN := by
  unfold fX12_bedOf at hf
  refine rw_met (by decide +kernel) rfl (Nat.le_of_ble_eq_true rfl) ?_
  show RW G _ _ _ _ 0 0 0 [(0, .ref (ad 43)), (1, .int a0), (2, .int a1)] [] h
  refine rw_aload_n dX12_bedOf_0 0 rfl rfl ?_
  obtain ⟨q1, hq1, hf⟩ := bnd hf
  refine kV_I (ad := ad) (As := []) (st := []) dX12_bedOf_1 calX12_isOld wm1724 wm1726 wm45 rfl rfl (rc_43 hr) (ci := 12) (by decide) rfl rfl (Nat.le_of_ble_eq_true rfl) ⟨⟨by decide, by decide⟩, by decide, by decide⟩ (cmX12_isOld hr hq1) (fun h hr => ?_)
  refine rw_if_ne (tgt := 44) dX12_bedOf_4 (by decide) (fun c2 => ?_) (fun c2 => ?_)
  · rw [if_neg c2] at hf
    refine rw_sub [] rfl ?_
    exact t_jX12_bedOf_44 (ad := ad) (G := G)  q1.2 _ hr hf
  · rw [if_pos c2] at hf
    refine rw_aload_n dX12_bedOf_7 0 rfl rfl ?_
    refine rw_aload_n dX12_bedOf_8 0 rfl rfl ?_
    refine rw_iload_n dX12_bedOf_9 1 rfl rfl ?_
    obtain ⟨q3, hq3, hf⟩ := bnd hf
    refine kV_I (ad := ad) (As := [.int a0]) (st := [.ref (ad 43)]) dX12_bedOf_10 calX12_isBoring wm1625 wm1627 wm32 rfl rfl (rc_43 hr) (ci := 12) (by decide) rfl rfl (Nat.le_of_ble_eq_true rfl) ⟨⟨by decide, by decide⟩, by decide, by decide⟩ (cmX12_isBoring hr hq3) (fun h hr => ?_)
    refine rw_if_eq (tgt := 32) dX12_bedOf_13 (by decide) (fun c4 => ?_) (fun c4 => ?_)
    · rw [if_pos c4] at hf
      exact t_jX12_bedOf_32 (ad := ad) (G := G)  a0 a1 q3.2 _ hr hf
    · rw [if_neg c4] at hf
      refine rw_iload_n dX12_bedOf_16 2 rfl rfl ?_
      refine rw_iconst (v := 0) dX12_bedOf_17 (by decide) ?_
      refine rw_aload_n dX12_bedOf_18 0 rfl rfl ?_
      refine sg_43_6 hr dX12_bedOf_19 fl1468 ?_
      refine rw_iload_n dX12_bedOf_22 1 rfl rfl ?_
      obtain ⟨hi5, hf⟩ := grd hf
      refine sl_47 hr dX12_bedOf_23 (inB_in hi5) ?_
      refine rw_iconst (v := 1) dX12_bedOf_24 (by decide) ?_
      refine rw_isub dX12_bedOf_25 ?_
      obtain ⟨q6, hq6, hf⟩ := bnd hf
      refine kS_I (ad := ad) (As := [.int a1, .int 0, .int ((q3.2.2.2.1 47 a0.toNatClampNeg) - 1)]) (st := [.ref (ad 43)]) dX12_bedOf_26 calX12_in wm1612 wm1613 rfl rfl (Nat.le_of_ble_eq_true rfl) ⟨⟨by decide, by decide⟩, by decide, by decide⟩ (cmX12_in hr hq6) (fun h hr => ?_)
      refine rw_if_ne (tgt := 36) dX12_bedOf_29 (by decide) (fun c7 => ?_) (fun c7 => ?_)
      · rw [if_neg c7] at hf
        refine rw_iconst (v := 0) dX12_bedOf_36 (by decide) ?_
        exact t_jX12_bedOf_37 (ad := ad) (G := G)  a0 a1 0 q6.2 _ hr hf
      · rw [if_pos c7] at hf
        exact t_jX12_bedOf_32 (ad := ad) (G := G)  a0 a1 q6.2 _ hr hf
def jX12_has_119  (v4 : Int32) (σ : rS) : Option (Int32 × rS) := if v4 = 0 ∨ v4 = 1 then some (v4, σ) else none
set_option maxHeartbeats 4000000 in
theorem t_jX12_has_119 {G : rG} {ad : Nat → Nat} {o : (Int32 × rS)}   (v4 : Int32) (σ : rS) (h : rH) (hr : Rep G ad σ h) (hf : jX12_has_119  v4 σ = some o) : RW G mX12_has (rm 0 0 0) (qI G ad o) xN 0 0 119 [(4, .int v4)] [] h := by
  unfold jX12_has_119 at hf
  refine rw_iload dX12_has_119 0 rfl ?_
  obtain ⟨hz14, hf⟩ := grd hf
  replace hf := Option.some.inj hf
  subst hf
  exact rw_zreturn dX12_has_121 rfl (nar_z hz14) ⟨rfl, hr⟩ (by decide) (by decide)
def jX12_has_111 (k59 : Int32 → Int32 → Int32 → Int32 → Int32 → rS → Option (Int32 × rS)) (v1 : Int32) (v2 : Int32) (v3 : Int32) (v5 : Int32) (s0 : Int32) (σ : rS) : Option (Int32 × rS) := vI (v5 + 1) fun x15 => k59 v1 v2 v3 s0 x15 σ
set_option maxHeartbeats 4000000 in
theorem t_jX12_has_111 {G : rG} {ad : Nat → Nat} {o : (Int32 × rS)} (k59 : Int32 → Int32 → Int32 → Int32 → Int32 → rS → Option (Int32 × rS)) (hk59 : ∀ (v1 : Int32) (v2 : Int32) (v3 : Int32) (v4 : Int32) (v5 : Int32) (σ : rS) (h : rH), Rep G ad σ h → k59 v1 v2 v3 v4 v5 σ = some o → RW G mX12_has (rm 0 0 0) (qI G ad o) xN 0 0 59 [(0, .ref (ad 43)), (1, .int v1), (2, .int v2), (3, .int v3), (4, .int v4), (5, .int v5)] [] h) (v1 : Int32) (v2 : Int32) (v3 : Int32) (v5 : Int32) (s0 : Int32) (σ : rS) (h : rH) (hr : Rep G ad σ h) (hf : jX12_has_111 k59 v1 v2 v3 v5 s0 σ = some o) : RW G mX12_has (rm 0 0 0) (qI G ad o) xN 0 0 111 [(0, .ref (ad 43)), (1, .int v1), (2, .int v2), (3, .int v3), (5, .int v5)] [.int s0] h := by
  unfold jX12_has_111 at hf
  refine rw_istore (lv2 := [(4, .int s0), (0, .ref (ad 43)), (1, .int v1), (2, .int v2), (3, .int v3), (5, .int v5)]) dX12_has_111 (by decide) rfl ?_
  refine rw_iinc (v := v5 + 1) (lv2 := [(5, .int (v5 + 1)), (4, .int s0), (0, .ref (ad 43)), (1, .int v1), (2, .int v2), (3, .int v3)]) dX12_has_113 5 rfl rfl (by decide) rfl ?_
  refine nmL hf (fun x15 hf => ?_)
  refine rw_goto (tgt := 59) dX12_has_116 (by decide) ?_
  refine rw_sub [2, 3, 4, 5, 1, 0] rfl ?_
  exact hk59 v1 v2 v3 s0 x15 σ _ hr hf
def jX12_has_110 (k59 : Int32 → Int32 → Int32 → Int32 → Int32 → rS → Option (Int32 × rS)) (v1 : Int32) (v2 : Int32) (v3 : Int32) (v5 : Int32) (σ : rS) : Option (Int32 × rS) := jX12_has_111 k59 v1 v2 v3 v5 0 σ
set_option maxHeartbeats 4000000 in
theorem t_jX12_has_110 {G : rG} {ad : Nat → Nat} {o : (Int32 × rS)} (k59 : Int32 → Int32 → Int32 → Int32 → Int32 → rS → Option (Int32 × rS)) (hk59 : ∀ (v1 : Int32) (v2 : Int32) (v3 : Int32) (v4 : Int32) (v5 : Int32) (σ : rS) (h : rH), Rep G ad σ h → k59 v1 v2 v3 v4 v5 σ = some o → RW G mX12_has (rm 0 0 0) (qI G ad o) xN 0 0 59 [(0, .ref (ad 43)), (1, .int v1), (2, .int v2), (3, .int v3), (4, .int v4), (5, .int v5)] [] h) (v1 : Int32) (v2 : Int32) (v3 : Int32) (v5 : Int32) (σ : rS) (h : rH) (hr : Rep G ad σ h) (hf : jX12_has_110 k59 v1 v2 v3 v5 σ = some o) : RW G mX12_has (rm 0 0 0) (qI G ad o) xN 0 0 110 [(0, .ref (ad 43)), (1, .int v1), (2, .int v2), (3, .int v3), (5, .int v5)] [] h := by
  unfold jX12_has_110 at hf
  refine rw_iconst (v := 0) dX12_has_110 (by decide) ?_
  exact t_jX12_has_111 (ad := ad) (G := G) k59 hk59 v1 v2 v3 v5 0 σ _ hr hf
def jX12_has_106 (k59 : Int32 → Int32 → Int32 → Int32 → Int32 → rS → Option (Int32 × rS)) (v1 : Int32) (v2 : Int32) (v3 : Int32) (v5 : Int32) (σ : rS) : Option (Int32 × rS) := jX12_has_111 k59 v1 v2 v3 v5 1 σ
set_option maxHeartbeats 4000000 in
theorem t_jX12_has_106 {G : rG} {ad : Nat → Nat} {o : (Int32 × rS)} (k59 : Int32 → Int32 → Int32 → Int32 → Int32 → rS → Option (Int32 × rS)) (hk59 : ∀ (v1 : Int32) (v2 : Int32) (v3 : Int32) (v4 : Int32) (v5 : Int32) (σ : rS) (h : rH), Rep G ad σ h → k59 v1 v2 v3 v4 v5 σ = some o → RW G mX12_has (rm 0 0 0) (qI G ad o) xN 0 0 59 [(0, .ref (ad 43)), (1, .int v1), (2, .int v2), (3, .int v3), (4, .int v4), (5, .int v5)] [] h) (v1 : Int32) (v2 : Int32) (v3 : Int32) (v5 : Int32) (σ : rS) (h : rH) (hr : Rep G ad σ h) (hf : jX12_has_106 k59 v1 v2 v3 v5 σ = some o) : RW G mX12_has (rm 0 0 0) (qI G ad o) xN 0 0 106 [(0, .ref (ad 43)), (1, .int v1), (2, .int v2), (3, .int v3), (5, .int v5)] [] h := by
  unfold jX12_has_106 at hf
  refine rw_iconst (v := 1) dX12_has_106 (by decide) ?_
  refine rw_goto (tgt := 111) dX12_has_107 (by decide) ?_
  exact t_jX12_has_111 (ad := ad) (G := G) k59 hk59 v1 v2 v3 v5 1 σ _ hr hf
def lX12_has_59  : Nat → Int32 → Int32 → Int32 → Int32 → Int32 → rS → Option (Int32 × rS)
  | 0, _, _, _, _, _, _ => none
  | n + 1, v1, v2, v3, v4, v5, σ => if (σ.1 43 14) ≤ v5 then jX12_has_119 v4 σ else if v1 = ((-1)) then if v4 = 0 then if inB (3 * v5) 180 then (if (σ.2.2.1 52 (3 * v5).toNatClampNeg) = v3 then if inB ((3 * v5) + 1) 180 then (if (σ.2.2.1 52 ((3 * v5) + 1).toNatClampNeg) = v2 then jX12_has_106 (lX12_has_59 n) v1 v2 v3 v5 σ else jX12_has_110 (lX12_has_59 n) v1 v2 v3 v5 σ) else none else jX12_has_110 (lX12_has_59 n) v1 v2 v3 v5 σ) else none else jX12_has_106 (lX12_has_59 n) v1 v2 v3 v5 σ else jX12_has_119 v4 σ
set_option maxHeartbeats 4000000 in
theorem t_lX12_has_59 {G : rG} {ad : Nat → Nat} {o : (Int32 × rS)}   : ∀ (n : Nat) (v1 : Int32) (v2 : Int32) (v3 : Int32) (v4 : Int32) (v5 : Int32) (σ : rS) (h : rH), Rep G ad σ h → lX12_has_59  n v1 v2 v3 v4 v5 σ = some o → RW G mX12_has (rm 0 0 0) (qI G ad o) xN 0 0 59 [(0, .ref (ad 43)), (1, .int v1), (2, .int v2), (3, .int v3), (4, .int v4), (5, .int v5)] [] h := by
  intro n
  induction n with
  | zero =>
    intro v1 v2 v3 v4 v5 σ h hr hf
    rw [lX12_has_59] at hf
    cases hf
  | succ n ih =>
    intro v1 v2 v3 v4 v5 σ h hr hf
    rw [lX12_has_59] at hf
    refine rw_iload dX12_has_59 5 rfl ?_
    refine rw_aload_n dX12_has_61 0 rfl rfl ?_
    refine sg_43_14 hr dX12_has_62 fl1476 ?_
    refine rw_icmp_ge (tgt := 119) dX12_has_65 (by decide) (fun c7 => ?_) (fun c7 => ?_)
    · rw [if_pos c7] at hf
      refine rw_sub [4] rfl ?_
      exact t_jX12_has_119 (ad := ad) (G := G)  v4 σ _ hr hf
    · rw [if_neg c7] at hf
      refine rw_iload_n dX12_has_68 1 rfl rfl ?_
      refine rw_iconst (v := (-1)) dX12_has_69 (by decide) ?_
      refine rw_icmp_ne (tgt := 119) dX12_has_70 (by decide) (fun c8 => ?_) (fun c8 => ?_)
      · rw [if_neg c8] at hf
        refine rw_sub [4] rfl ?_
        exact t_jX12_has_119 (ad := ad) (G := G)  v4 σ _ hr hf
      · rw [if_pos c8] at hf
        refine rw_iload dX12_has_73 4 rfl ?_
        refine rw_if_ne (tgt := 106) dX12_has_75 (by decide) (fun c9 => ?_) (fun c9 => ?_)
        · rw [if_neg c9] at hf
          refine rw_sub [0, 1, 2, 3, 5] rfl ?_
          exact t_jX12_has_106 (ad := ad) (G := G) (lX12_has_59 n) ih v1 v2 v3 v5 σ _ hr hf
        · rw [if_pos c9] at hf
          refine rw_aload_n dX12_has_78 0 rfl rfl ?_
          refine sg_43_15 hr dX12_has_79 fl1477 ?_
          refine rw_iconst (v := 3) dX12_has_82 (by decide) ?_
          refine rw_iload dX12_has_83 5 rfl ?_
          refine rw_imul dX12_has_85 ?_
          obtain ⟨hi10, hf⟩ := grd hf
          refine sl_52 hr dX12_has_86 (inB_in hi10) ?_
          refine rw_iload_n dX12_has_87 3 rfl rfl ?_
          refine rw_icmp_ne (tgt := 110) dX12_has_88 (by decide) (fun c11 => ?_) (fun c11 => ?_)
          · rw [if_neg c11] at hf
            refine rw_sub [0, 1, 2, 3, 5] rfl ?_
            exact t_jX12_has_110 (ad := ad) (G := G) (lX12_has_59 n) ih v1 v2 v3 v5 σ _ hr hf
          · rw [if_pos c11] at hf
            refine rw_aload_n dX12_has_91 0 rfl rfl ?_
            refine sg_43_15 hr dX12_has_92 fl1477 ?_
            refine rw_iconst (v := 3) dX12_has_95 (by decide) ?_
            refine rw_iload dX12_has_96 5 rfl ?_
            refine rw_imul dX12_has_98 ?_
            refine rw_iconst (v := 1) dX12_has_99 (by decide) ?_
            refine rw_iadd dX12_has_100 ?_
            obtain ⟨hi12, hf⟩ := grd hf
            refine sl_52 hr dX12_has_101 (inB_in hi12) ?_
            refine rw_iload_n dX12_has_102 2 rfl rfl ?_
            refine rw_icmp_ne (tgt := 110) dX12_has_103 (by decide) (fun c13 => ?_) (fun c13 => ?_)
            · rw [if_neg c13] at hf
              refine rw_sub [0, 1, 2, 3, 5] rfl ?_
              exact t_jX12_has_110 (ad := ad) (G := G) (lX12_has_59 n) ih v1 v2 v3 v5 σ _ hr hf
            · rw [if_pos c13] at hf
              refine rw_sub [0, 1, 2, 3, 5] rfl ?_
              exact t_jX12_has_106 (ad := ad) (G := G) (lX12_has_59 n) ih v1 v2 v3 v5 σ _ hr hf
def jX12_has_56  (v1 : Int32) (v2 : Int32) (v3 : Int32) (v4 : Int32) (σ : rS) : Option (Int32 × rS) := lX12_has_59 1000 v1 v2 v3 v4 0 σ
set_option maxHeartbeats 4000000 in
theorem t_jX12_has_56 {G : rG} {ad : Nat → Nat} {o : (Int32 × rS)}   (v1 : Int32) (v2 : Int32) (v3 : Int32) (v4 : Int32) (σ : rS) (h : rH) (hr : Rep G ad σ h) (hf : jX12_has_56  v1 v2 v3 v4 σ = some o) : RW G mX12_has (rm 0 0 0) (qI G ad o) xN 0 0 56 [(0, .ref (ad 43)), (1, .int v1), (2, .int v2), (3, .int v3), (4, .int v4)] [] h := by
  unfold jX12_has_56 at hf
  refine rw_iconst (v := 0) dX12_has_56 (by decide) ?_
  refine rw_istore (lv2 := [(5, .int 0), (0, .ref (ad 43)), (1, .int v1), (2, .int v2), (3, .int v3), (4, .int v4)]) dX12_has_57 (by decide) rfl ?_
  refine rw_sub [1, 2, 3, 4, 5, 0] rfl ?_
  exact t_lX12_has_59 (ad := ad) (G := G)  1000 v1 v2 v3 v4 0 σ _ hr hf
def jX12_has_48 (k6 : Int32 → Int32 → Int32 → Int32 → Int32 → rS → Option (Int32 × rS)) (v1 : Int32) (v2 : Int32) (v3 : Int32) (v5 : Int32) (s0 : Int32) (σ : rS) : Option (Int32 × rS) := vI (v5 + 1) fun x16 => k6 v1 v2 v3 s0 x16 σ
set_option maxHeartbeats 4000000 in
theorem t_jX12_has_48 {G : rG} {ad : Nat → Nat} {o : (Int32 × rS)} (k6 : Int32 → Int32 → Int32 → Int32 → Int32 → rS → Option (Int32 × rS)) (hk6 : ∀ (v1 : Int32) (v2 : Int32) (v3 : Int32) (v4 : Int32) (v5 : Int32) (σ : rS) (h : rH), Rep G ad σ h → k6 v1 v2 v3 v4 v5 σ = some o → RW G mX12_has (rm 0 0 0) (qI G ad o) xN 0 0 6 [(0, .ref (ad 43)), (1, .int v1), (2, .int v2), (3, .int v3), (4, .int v4), (5, .int v5)] [] h) (v1 : Int32) (v2 : Int32) (v3 : Int32) (v5 : Int32) (s0 : Int32) (σ : rS) (h : rH) (hr : Rep G ad σ h) (hf : jX12_has_48 k6 v1 v2 v3 v5 s0 σ = some o) : RW G mX12_has (rm 0 0 0) (qI G ad o) xN 0 0 48 [(0, .ref (ad 43)), (1, .int v1), (2, .int v2), (3, .int v3), (5, .int v5)] [.int s0] h := by
  unfold jX12_has_48 at hf
  refine rw_istore (lv2 := [(4, .int s0), (0, .ref (ad 43)), (1, .int v1), (2, .int v2), (3, .int v3), (5, .int v5)]) dX12_has_48 (by decide) rfl ?_
  refine rw_iinc (v := v5 + 1) (lv2 := [(5, .int (v5 + 1)), (4, .int s0), (0, .ref (ad 43)), (1, .int v1), (2, .int v2), (3, .int v3)]) dX12_has_50 5 rfl rfl (by decide) rfl ?_
  refine nmL hf (fun x16 hf => ?_)
  refine rw_goto (tgt := 6) dX12_has_53 (by decide) ?_
  refine rw_sub [2, 3, 4, 5, 1, 0] rfl ?_
  exact hk6 v1 v2 v3 s0 x16 σ _ hr hf
def jX12_has_43 (k6 : Int32 → Int32 → Int32 → Int32 → Int32 → rS → Option (Int32 × rS)) (v1 : Int32) (v2 : Int32) (v3 : Int32) (v5 : Int32) (σ : rS) : Option (Int32 × rS) := jX12_has_48 k6 v1 v2 v3 v5 1 σ
set_option maxHeartbeats 4000000 in
theorem t_jX12_has_43 {G : rG} {ad : Nat → Nat} {o : (Int32 × rS)} (k6 : Int32 → Int32 → Int32 → Int32 → Int32 → rS → Option (Int32 × rS)) (hk6 : ∀ (v1 : Int32) (v2 : Int32) (v3 : Int32) (v4 : Int32) (v5 : Int32) (σ : rS) (h : rH), Rep G ad σ h → k6 v1 v2 v3 v4 v5 σ = some o → RW G mX12_has (rm 0 0 0) (qI G ad o) xN 0 0 6 [(0, .ref (ad 43)), (1, .int v1), (2, .int v2), (3, .int v3), (4, .int v4), (5, .int v5)] [] h) (v1 : Int32) (v2 : Int32) (v3 : Int32) (v5 : Int32) (σ : rS) (h : rH) (hr : Rep G ad σ h) (hf : jX12_has_43 k6 v1 v2 v3 v5 σ = some o) : RW G mX12_has (rm 0 0 0) (qI G ad o) xN 0 0 43 [(0, .ref (ad 43)), (1, .int v1), (2, .int v2), (3, .int v3), (5, .int v5)] [] h := by
  unfold jX12_has_43 at hf
  refine rw_iconst (v := 1) dX12_has_43 (by decide) ?_
  refine rw_goto (tgt := 48) dX12_has_44 (by decide) ?_
  exact t_jX12_has_48 (ad := ad) (G := G) k6 hk6 v1 v2 v3 v5 1 σ _ hr hf
def lX12_has_6  : Nat → Int32 → Int32 → Int32 → Int32 → Int32 → rS → Option (Int32 × rS)
  | 0, _, _, _, _, _, _ => none
  | n + 1, v1, v2, v3, v4, v5, σ => if inB v3 16 then (if (σ.2.2.1 47 v3.toNatClampNeg) ≤ v5 then jX12_has_56 v1 v2 v3 v4 σ else if v1 = ((-1)) then jX12_has_56 v1 v2 v3 v4 σ else if v4 = 0 then if inB ((12 * v3) + v5) 192 then (if (σ.2.2.1 60 ((12 * v3) + v5).toNatClampNeg) = v1 then jX12_has_43 (lX12_has_6 n) v1 v2 v3 v5 σ else jX12_has_48 (lX12_has_6 n) v1 v2 v3 v5 0 σ) else none else jX12_has_43 (lX12_has_6 n) v1 v2 v3 v5 σ) else none
set_option maxHeartbeats 4000000 in
theorem t_lX12_has_6 {G : rG} {ad : Nat → Nat} {o : (Int32 × rS)}   : ∀ (n : Nat) (v1 : Int32) (v2 : Int32) (v3 : Int32) (v4 : Int32) (v5 : Int32) (σ : rS) (h : rH), Rep G ad σ h → lX12_has_6  n v1 v2 v3 v4 v5 σ = some o → RW G mX12_has (rm 0 0 0) (qI G ad o) xN 0 0 6 [(0, .ref (ad 43)), (1, .int v1), (2, .int v2), (3, .int v3), (4, .int v4), (5, .int v5)] [] h := by
  intro n
  induction n with
  | zero =>
    intro v1 v2 v3 v4 v5 σ h hr hf
    rw [lX12_has_6] at hf
    cases hf
  | succ n ih =>
    intro v1 v2 v3 v4 v5 σ h hr hf
    rw [lX12_has_6] at hf
    refine rw_iload dX12_has_6 5 rfl ?_
    refine rw_aload_n dX12_has_8 0 rfl rfl ?_
    refine sg_43_6 hr dX12_has_9 fl1468 ?_
    refine rw_iload_n dX12_has_12 3 rfl rfl ?_
    obtain ⟨hi1, hf⟩ := grd hf
    refine sl_47 hr dX12_has_13 (inB_in hi1) ?_
    refine rw_icmp_ge (tgt := 56) dX12_has_14 (by decide) (fun c2 => ?_) (fun c2 => ?_)
    · rw [if_pos c2] at hf
      refine rw_sub [0, 1, 2, 3, 4] rfl ?_
      exact t_jX12_has_56 (ad := ad) (G := G)  v1 v2 v3 v4 σ _ hr hf
    · rw [if_neg c2] at hf
      refine rw_iload_n dX12_has_17 1 rfl rfl ?_
      refine rw_iconst (v := (-1)) dX12_has_18 (by decide) ?_
      refine rw_icmp_eq (tgt := 56) dX12_has_19 (by decide) (fun c3 => ?_) (fun c3 => ?_)
      · rw [if_pos c3] at hf
        refine rw_sub [0, 1, 2, 3, 4] rfl ?_
        exact t_jX12_has_56 (ad := ad) (G := G)  v1 v2 v3 v4 σ _ hr hf
      · rw [if_neg c3] at hf
        refine rw_iload dX12_has_22 4 rfl ?_
        refine rw_if_ne (tgt := 43) dX12_has_24 (by decide) (fun c4 => ?_) (fun c4 => ?_)
        · rw [if_neg c4] at hf
          refine rw_sub [0, 1, 2, 3, 5] rfl ?_
          exact t_jX12_has_43 (ad := ad) (G := G) (lX12_has_6 n) ih v1 v2 v3 v5 σ _ hr hf
        · rw [if_pos c4] at hf
          refine rw_aload_n dX12_has_27 0 rfl rfl ?_
          refine sg_43_26 hr dX12_has_28 fl1488 ?_
          refine rw_bipush (v := 12) dX12_has_31 (by decide) ?_
          refine rw_iload_n dX12_has_33 3 rfl rfl ?_
          refine rw_imul dX12_has_34 ?_
          refine rw_iload dX12_has_35 5 rfl ?_
          refine rw_iadd dX12_has_37 ?_
          obtain ⟨hi5, hf⟩ := grd hf
          refine sl_60 hr dX12_has_38 (inB_in hi5) ?_
          refine rw_iload_n dX12_has_39 1 rfl rfl ?_
          refine rw_icmp_ne (tgt := 47) dX12_has_40 (by decide) (fun c6 => ?_) (fun c6 => ?_)
          · rw [if_neg c6] at hf
            refine rw_iconst (v := 0) dX12_has_47 (by decide) ?_
            refine rw_sub [0, 1, 2, 3, 5] rfl ?_
            exact t_jX12_has_48 (ad := ad) (G := G) (lX12_has_6 n) ih v1 v2 v3 v5 0 σ _ hr hf
          · rw [if_pos c6] at hf
            refine rw_sub [0, 1, 2, 3, 5] rfl ?_
            exact t_jX12_has_43 (ad := ad) (G := G) (lX12_has_6 n) ih v1 v2 v3 v5 σ _ hr hf
def fX12_has (a0 : Int32) (a1 : Int32) (a2 : Int32) (σ : rS) : Option (Int32 × rS) := lX12_has_6 1000 a0 a1 a2 0 0 σ
set_option maxHeartbeats 4000000 in
theorem cmX12_has {G : rG} {ad : Nat → Nat} {a0 : Int32} {a1 : Int32} {a2 : Int32} {σ : rS} {h : rH} {o : (Int32 × rS)} (hr : Rep G ad σ h) (hf : fX12_has a0 a1 a2 σ = some o) : rMT G mX12_has (rm 0 0 0) [.ref (ad 43), .int a0, .int a1, .int a2] h (qI G ad o) xN := by
  unfold fX12_has at hf
  refine rw_met (by decide +kernel) rfl (Nat.le_of_ble_eq_true rfl) ?_
  show RW G _ _ _ _ 0 0 0 [(0, .ref (ad 43)), (1, .int a0), (2, .int a1), (3, .int a2)] [] h
  refine rw_iconst (v := 0) dX12_has_0 (by decide) ?_
  refine rw_istore (lv2 := [(4, .int 0), (0, .ref (ad 43)), (1, .int a0), (2, .int a1), (3, .int a2)]) dX12_has_1 (by decide) rfl ?_
  refine rw_iconst (v := 0) dX12_has_3 (by decide) ?_
  refine rw_istore (lv2 := [(5, .int 0), (4, .int 0), (0, .ref (ad 43)), (1, .int a0), (2, .int a1), (3, .int a2)]) dX12_has_4 (by decide) rfl ?_
  refine rw_sub [2, 3, 4, 5, 1, 0] rfl ?_
  exact t_lX12_has_6 (ad := ad) (G := G)  1000 a0 a1 a2 0 0 σ _ hr hf
def lX12_levelAt_85  : Nat → Int32 → Int32 → Int64 → Int32 → rS → Option (Int64 × rS)
  | 0, _, _, _, _, _ => none
  | n + 1, v1, v3, v4, v6, σ => if inB ((12 * v3) + v6) 192 then (if (σ.2.2.1 60 ((12 * v3) + v6).toNatClampNeg) = v1 then some (v4, σ) else if inB ((12 * v3) + v6) 192 then vJ (v4 - ((σ.2.2.1 49 ((12 * v3) + v6).toNatClampNeg).toInt64)) fun x7 => vI (v6 + 1) fun x8 => (lX12_levelAt_85 n) v1 v3 x7 x8 σ else none) else none
set_option maxHeartbeats 4000000 in
theorem t_lX12_levelAt_85 {G : rG} {ad : Nat → Nat} {o : (Int64 × rS)}   : ∀ (n : Nat) (v1 : Int32) (v3 : Int32) (v4 : Int64) (v6 : Int32) (σ : rS) (h : rH), Rep G ad σ h → lX12_levelAt_85  n v1 v3 v4 v6 σ = some o → RW G mX12_levelAt (rm 0 0 0) (qJ G ad o) xN 0 0 85 [(0, .ref (ad 43)), (1, .int v1), (3, .int v3), (4, .long v4), (6, .int v6)] [] h := by
  intro n
  induction n with
  | zero =>
    intro v1 v3 v4 v6 σ h hr hf
    rw [lX12_levelAt_85] at hf
    cases hf
  | succ n ih =>
    intro v1 v3 v4 v6 σ h hr hf
    rw [lX12_levelAt_85] at hf
    refine rw_aload_n dX12_levelAt_85 0 rfl rfl ?_
    refine sg_43_26 hr dX12_levelAt_86 fl1488 ?_
    refine rw_bipush (v := 12) dX12_levelAt_89 (by decide) ?_
    refine rw_iload_n dX12_levelAt_91 2 rfl rfl ?_
    refine rw_imul dX12_levelAt_92 ?_
    refine rw_iload dX12_levelAt_93 4 rfl ?_
    refine rw_iadd dX12_levelAt_95 ?_
    obtain ⟨hi4, hf⟩ := grd hf
    refine sl_60 hr dX12_levelAt_96 (inB_in hi4) ?_
    refine rw_iload_n dX12_levelAt_97 1 rfl rfl ?_
    refine rw_icmp_eq (tgt := 125) dX12_levelAt_98 (by decide) (fun c5 => ?_) (fun c5 => ?_)
    · rw [if_pos c5] at hf
      refine rw_lload dX12_levelAt_125 3 rfl ?_
      replace hf := Option.some.inj hf
      subst hf
      exact rw_lreturn dX12_levelAt_127 rfl ⟨rfl, hr⟩ (by decide) (by decide)
    · rw [if_neg c5] at hf
      refine rw_lload dX12_levelAt_101 3 rfl ?_
      refine rw_aload_n dX12_levelAt_103 0 rfl rfl ?_
      refine sg_43_8 hr dX12_levelAt_104 fl1470 ?_
      refine rw_bipush (v := 12) dX12_levelAt_107 (by decide) ?_
      refine rw_iload_n dX12_levelAt_109 2 rfl rfl ?_
      refine rw_imul dX12_levelAt_110 ?_
      refine rw_iload dX12_levelAt_111 4 rfl ?_
      refine rw_iadd dX12_levelAt_113 ?_
      obtain ⟨hi6, hf⟩ := grd hf
      refine sl_49 hr dX12_levelAt_114 (inB_in hi6) ?_
      refine rw_i2l dX12_levelAt_115 ?_
      refine rw_lsub dX12_levelAt_116 ?_
      refine nmJ hf (fun x7 hf => ?_)
      refine rw_lstore (lv2 := [(4, .long x7), (0, .ref (ad 43)), (1, .int v1), (3, .int v3), (6, .int v6)]) dX12_levelAt_117 (by decide) rfl ?_
      refine rw_iinc (v := v6 + 1) (lv2 := [(6, .int (v6 + 1)), (4, .long x7), (0, .ref (ad 43)), (1, .int v1), (3, .int v3)]) dX12_levelAt_119 4 rfl rfl (by decide) rfl ?_
      refine nmL hf (fun x8 hf => ?_)
      refine rw_goto (tgt := 85) dX12_levelAt_122 (by decide) ?_
      refine rw_sub [2, 3, 4, 1, 0] rfl ?_
      exact ih v1 v3 x7 x8 σ _ hr hf
def jX12_levelAt_71 (k17 : Int32 → Int32 → Int64 → Int32 → rS → Option (Int64 × rS)) (v2 : Int32) (v3 : Int32) (v6 : Int32) (s0 : Int64) (σ : rS) : Option (Int64 × rS) := vI (v6 + 1) fun x15 => k17 v2 v3 s0 x15 σ
set_option maxHeartbeats 4000000 in
theorem t_jX12_levelAt_71 {G : rG} {ad : Nat → Nat} {o : (Int64 × rS)} (k17 : Int32 → Int32 → Int64 → Int32 → rS → Option (Int64 × rS)) (hk17 : ∀ (v2 : Int32) (v3 : Int32) (v4 : Int64) (v6 : Int32) (σ : rS) (h : rH), Rep G ad σ h → k17 v2 v3 v4 v6 σ = some o → RW G mX12_levelAt (rm 0 0 0) (qJ G ad o) xN 0 0 17 [(0, .ref (ad 43)), (2, .int v2), (3, .int v3), (4, .long v4), (6, .int v6)] [] h) (v2 : Int32) (v3 : Int32) (v6 : Int32) (s0 : Int64) (σ : rS) (h : rH) (hr : Rep G ad σ h) (hf : jX12_levelAt_71 k17 v2 v3 v6 s0 σ = some o) : RW G mX12_levelAt (rm 0 0 0) (qJ G ad o) xN 0 0 71 [(0, .ref (ad 43)), (2, .int v2), (3, .int v3), (6, .int v6)] [.long s0] h := by
  unfold jX12_levelAt_71 at hf
  refine rw_lstore (lv2 := [(4, .long s0), (0, .ref (ad 43)), (2, .int v2), (3, .int v3), (6, .int v6)]) dX12_levelAt_71 (by decide) rfl ?_
  refine rw_iinc (v := v6 + 1) (lv2 := [(6, .int (v6 + 1)), (4, .long s0), (0, .ref (ad 43)), (2, .int v2), (3, .int v3)]) dX12_levelAt_73 4 rfl rfl (by decide) rfl ?_
  refine nmL hf (fun x15 hf => ?_)
  refine rw_goto (tgt := 17) dX12_levelAt_76 (by decide) ?_
  refine rw_sub [2, 3, 4, 1, 0] rfl ?_
  exact hk17 v2 v3 s0 x15 σ _ hr hf
def jX12_levelAt_69 (k17 : Int32 → Int32 → Int64 → Int32 → rS → Option (Int64 × rS)) (v2 : Int32) (v3 : Int32) (v4 : Int64) (v6 : Int32) (σ : rS) : Option (Int64 × rS) := jX12_levelAt_71 k17 v2 v3 v6 v4 σ
set_option maxHeartbeats 4000000 in
theorem t_jX12_levelAt_69 {G : rG} {ad : Nat → Nat} {o : (Int64 × rS)} (k17 : Int32 → Int32 → Int64 → Int32 → rS → Option (Int64 × rS)) (hk17 : ∀ (v2 : Int32) (v3 : Int32) (v4 : Int64) (v6 : Int32) (σ : rS) (h : rH), Rep G ad σ h → k17 v2 v3 v4 v6 σ = some o → RW G mX12_levelAt (rm 0 0 0) (qJ G ad o) xN 0 0 17 [(0, .ref (ad 43)), (2, .int v2), (3, .int v3), (4, .long v4), (6, .int v6)] [] h) (v2 : Int32) (v3 : Int32) (v4 : Int64) (v6 : Int32) (σ : rS) (h : rH) (hr : Rep G ad σ h) (hf : jX12_levelAt_69 k17 v2 v3 v4 v6 σ = some o) : RW G mX12_levelAt (rm 0 0 0) (qJ G ad o) xN 0 0 69 [(0, .ref (ad 43)), (2, .int v2), (3, .int v3), (4, .long v4), (6, .int v6)] [] h := by
  unfold jX12_levelAt_69 at hf
  refine rw_lload dX12_levelAt_69 3 rfl ?_
  refine rw_sub [0, 1, 2, 4] rfl ?_
  exact t_jX12_levelAt_71 (ad := ad) (G := G) k17 hk17 v2 v3 v6 v4 σ _ hr hf
def lX12_levelAt_17  : Nat → Int32 → Int32 → Int64 → Int32 → rS → Option (Int64 × rS)
  | 0, _, _, _, _, _ => none
  | n + 1, v2, v3, v4, v6, σ => if (σ.1 43 14) ≤ v6 then some (v4, σ) else if inB (3 * v6) 180 then (if (σ.2.2.1 52 (3 * v6).toNatClampNeg) = v3 then if inB ((3 * v6) + 1) 180 then (if (σ.2.2.1 52 ((3 * v6) + 1).toNatClampNeg) = v2 then if inB ((3 * v6) + 2) 180 then jX12_levelAt_71 (lX12_levelAt_17 n) v2 v3 v6 ((σ.2.2.1 52 ((3 * v6) + 2).toNatClampNeg).toInt64) σ else none else jX12_levelAt_69 (lX12_levelAt_17 n) v2 v3 v4 v6 σ) else none else jX12_levelAt_69 (lX12_levelAt_17 n) v2 v3 v4 v6 σ) else none
set_option maxHeartbeats 4000000 in
theorem t_lX12_levelAt_17 {G : rG} {ad : Nat → Nat} {o : (Int64 × rS)}   : ∀ (n : Nat) (v2 : Int32) (v3 : Int32) (v4 : Int64) (v6 : Int32) (σ : rS) (h : rH), Rep G ad σ h → lX12_levelAt_17  n v2 v3 v4 v6 σ = some o → RW G mX12_levelAt (rm 0 0 0) (qJ G ad o) xN 0 0 17 [(0, .ref (ad 43)), (2, .int v2), (3, .int v3), (4, .long v4), (6, .int v6)] [] h := by
  intro n
  induction n with
  | zero =>
    intro v2 v3 v4 v6 σ h hr hf
    rw [lX12_levelAt_17] at hf
    cases hf
  | succ n ih =>
    intro v2 v3 v4 v6 σ h hr hf
    rw [lX12_levelAt_17] at hf
    refine rw_iload dX12_levelAt_17 4 rfl ?_
    refine rw_aload_n dX12_levelAt_19 0 rfl rfl ?_
    refine sg_43_14 hr dX12_levelAt_20 fl1476 ?_
    refine rw_icmp_ge (tgt := 79) dX12_levelAt_23 (by decide) (fun c9 => ?_) (fun c9 => ?_)
    · rw [if_pos c9] at hf
      refine rw_lload dX12_levelAt_79 3 rfl ?_
      replace hf := Option.some.inj hf
      subst hf
      exact rw_lreturn dX12_levelAt_81 rfl ⟨rfl, hr⟩ (by decide) (by decide)
    · rw [if_neg c9] at hf
      refine rw_aload_n dX12_levelAt_26 0 rfl rfl ?_
      refine sg_43_15 hr dX12_levelAt_27 fl1477 ?_
      refine rw_iconst (v := 3) dX12_levelAt_30 (by decide) ?_
      refine rw_iload dX12_levelAt_31 4 rfl ?_
      refine rw_imul dX12_levelAt_33 ?_
      obtain ⟨hi10, hf⟩ := grd hf
      refine sl_52 hr dX12_levelAt_34 (inB_in hi10) ?_
      refine rw_iload_n dX12_levelAt_35 2 rfl rfl ?_
      refine rw_icmp_ne (tgt := 69) dX12_levelAt_36 (by decide) (fun c11 => ?_) (fun c11 => ?_)
      · rw [if_neg c11] at hf
        exact t_jX12_levelAt_69 (ad := ad) (G := G) (lX12_levelAt_17 n) ih v2 v3 v4 v6 σ _ hr hf
      · rw [if_pos c11] at hf
        refine rw_aload_n dX12_levelAt_39 0 rfl rfl ?_
        refine sg_43_15 hr dX12_levelAt_40 fl1477 ?_
        refine rw_iconst (v := 3) dX12_levelAt_43 (by decide) ?_
        refine rw_iload dX12_levelAt_44 4 rfl ?_
        refine rw_imul dX12_levelAt_46 ?_
        refine rw_iconst (v := 1) dX12_levelAt_47 (by decide) ?_
        refine rw_iadd dX12_levelAt_48 ?_
        obtain ⟨hi12, hf⟩ := grd hf
        refine sl_52 hr dX12_levelAt_49 (inB_in hi12) ?_
        refine rw_iload_n dX12_levelAt_50 1 rfl rfl ?_
        refine rw_icmp_ne (tgt := 69) dX12_levelAt_51 (by decide) (fun c13 => ?_) (fun c13 => ?_)
        · rw [if_neg c13] at hf
          exact t_jX12_levelAt_69 (ad := ad) (G := G) (lX12_levelAt_17 n) ih v2 v3 v4 v6 σ _ hr hf
        · rw [if_pos c13] at hf
          refine rw_aload_n dX12_levelAt_54 0 rfl rfl ?_
          refine sg_43_15 hr dX12_levelAt_55 fl1477 ?_
          refine rw_iconst (v := 3) dX12_levelAt_58 (by decide) ?_
          refine rw_iload dX12_levelAt_59 4 rfl ?_
          refine rw_imul dX12_levelAt_61 ?_
          refine rw_iconst (v := 2) dX12_levelAt_62 (by decide) ?_
          refine rw_iadd dX12_levelAt_63 ?_
          obtain ⟨hi14, hf⟩ := grd hf
          refine sl_52 hr dX12_levelAt_64 (inB_in hi14) ?_
          refine rw_i2l dX12_levelAt_65 ?_
          refine rw_goto (tgt := 71) dX12_levelAt_66 (by decide) ?_
          refine rw_sub [0, 1, 2, 4] rfl ?_
          exact t_jX12_levelAt_71 (ad := ad) (G := G) (lX12_levelAt_17 n) ih v2 v3 v6 ((σ.2.2.1 52 ((3 * v6) + 2).toNatClampNeg).toInt64) σ _ hr hf
def fX12_levelAt (a0 : Int32) (a1 : Int32) (a2 : Int32) (σ : rS) : Option (Int64 × rS) := if inB a2 16 then vJ ((σ.2.2.1 46 a2.toNatClampNeg).toInt64) fun x2 => (if a0 = ((-1)) then lX12_levelAt_17 1000 a1 a2 x2 0 σ else lX12_levelAt_85 1000 a0 a2 x2 0 σ) else none
set_option maxHeartbeats 4000000 in
theorem cmX12_levelAt {G : rG} {ad : Nat → Nat} {a0 : Int32} {a1 : Int32} {a2 : Int32} {σ : rS} {h : rH} {o : (Int64 × rS)} (hr : Rep G ad σ h) (hf : fX12_levelAt a0 a1 a2 σ = some o) : rMT G mX12_levelAt (rm 0 0 0) [.ref (ad 43), .int a0, .int a1, .int a2] h (qJ G ad o) xN := by
  unfold fX12_levelAt at hf
  refine rw_met (by decide +kernel) rfl (Nat.le_of_ble_eq_true rfl) ?_
  show RW G _ _ _ _ 0 0 0 [(0, .ref (ad 43)), (1, .int a0), (2, .int a1), (3, .int a2)] [] h
  refine rw_aload_n dX12_levelAt_0 0 rfl rfl ?_
  refine sg_43_5 hr dX12_levelAt_1 fl1467 ?_
  refine rw_iload_n dX12_levelAt_4 3 rfl rfl ?_
  obtain ⟨hi1, hf⟩ := grd hf
  refine sl_46 hr dX12_levelAt_5 (inB_in hi1) ?_
  refine rw_i2l dX12_levelAt_6 ?_
  refine nmJ hf (fun x2 hf => ?_)
  refine rw_lstore (lv2 := [(4, .long x2), (0, .ref (ad 43)), (1, .int a0), (2, .int a1), (3, .int a2)]) dX12_levelAt_7 (by decide) rfl ?_
  refine rw_iload_n dX12_levelAt_9 2 rfl rfl ?_
  refine rw_iconst (v := (-1)) dX12_levelAt_10 (by decide) ?_
  refine rw_icmp_ne (tgt := 82) dX12_levelAt_11 (by decide) (fun c3 => ?_) (fun c3 => ?_)
  · rw [if_neg c3] at hf
    refine rw_iconst (v := 0) dX12_levelAt_82 (by decide) ?_
    refine rw_istore (lv2 := [(6, .int 0), (4, .long x2), (0, .ref (ad 43)), (1, .int a0), (2, .int a1), (3, .int a2)]) dX12_levelAt_83 (by decide) rfl ?_
    refine rw_sub [2, 3, 5, 1, 0] rfl ?_
    exact t_lX12_levelAt_85 (ad := ad) (G := G)  1000 a0 a2 x2 0 σ _ hr hf
  · rw [if_pos c3] at hf
    refine rw_iconst (v := 0) dX12_levelAt_14 (by decide) ?_
    refine rw_istore (lv2 := [(6, .int 0), (4, .long x2), (0, .ref (ad 43)), (1, .int a0), (2, .int a1), (3, .int a2)]) dX12_levelAt_15 (by decide) rfl ?_
    refine rw_sub [2, 4, 5, 1, 0] rfl ?_
    exact t_lX12_levelAt_17 (ad := ad) (G := G)  1000 a1 a2 x2 0 σ _ hr hf
def jX12_tell_67  (v1 : Int64) (v3 : Int64) (s0 : Int64) (σ : rS) : Option (Unit × rS) := if ¬ s0 = 0 then vS (uL σ 43 29 (v1 / s0)) fun σ8 => if ¬ s0 = 0 then vS (uL σ8 43 30 (v3 / s0)) fun σ10 => some ((), σ10) else none else none
set_option maxHeartbeats 4000000 in
theorem t_jX12_tell_67 {G : rG} {ad : Nat → Nat} {o : (Unit × rS)}   (v1 : Int64) (v3 : Int64) (s0 : Int64) (σ : rS) (h : rH) (hr : Rep G ad σ h) (hf : jX12_tell_67  v1 v3 s0 σ = some o) : RW G mX12_tell (rm 0 0 0) (qV G ad o) xN 0 0 67 [(0, .ref (ad 43)), (1, .long v1), (3, .long v3)] [.long s0] h := by
  unfold jX12_tell_67 at hf
  refine rw_lstore (lv2 := [(5, .long s0), (0, .ref (ad 43)), (1, .long v1), (3, .long v3)]) dX12_tell_67 (by decide) rfl ?_
  refine rw_aload_n dX12_tell_69 1 rfl rfl ?_
  refine rw_lload_n dX12_tell_70 2 rfl rfl ?_
  refine rw_lload dX12_tell_71 0 rfl ?_
  obtain ⟨hz7, hf⟩ := grd hf
  refine rw_ldiv dX12_tell_73 hz7 ?_
  refine sp_43_29 hr dX12_tell_74 fl1491 (fun h hr => ?_)
  refine nmS hf hr (fun σ8 hr hf => ?_)
  refine rw_aload_n dX12_tell_77 1 rfl rfl ?_
  refine rw_lload_n dX12_tell_78 3 rfl rfl ?_
  refine rw_lload dX12_tell_79 0 rfl ?_
  obtain ⟨hz9, hf⟩ := grd hf
  refine rw_ldiv dX12_tell_81 hz9 ?_
  refine sp_43_30 hr dX12_tell_82 fl1492 (fun h hr => ?_)
  refine nmS hf hr (fun σ10 hr hf => ?_)
  replace hf := Option.some.inj hf
  subst hf
  exact rw_return dX12_tell_85 rfl ⟨rfl, hr⟩ (by decide) (by decide)
def lX12_tell_28  : Nat → Int64 → Int64 → Int64 → Int64 → rS → Option (Unit × rS)
  | 0, _, _, _, _, _ => none
  | n + 1, v1, v3, v5, v7, σ => if (lg_cmp v7 0) = 0 then if 0 ≤ (lg_cmp v3 0) then jX12_tell_67 v1 v3 v5 σ else jX12_tell_67 v1 v3 (-v5) σ else if ¬ v7 = 0 then vJ (v5 - v5 / v7 * v7) fun x6 => (lX12_tell_28 n) v1 v3 v7 x6 σ else none
set_option maxHeartbeats 4000000 in
theorem t_lX12_tell_28 {G : rG} {ad : Nat → Nat} {o : (Unit × rS)}   : ∀ (n : Nat) (v1 : Int64) (v3 : Int64) (v5 : Int64) (v7 : Int64) (σ : rS) (h : rH), Rep G ad σ h → lX12_tell_28  n v1 v3 v5 v7 σ = some o → RW G mX12_tell (rm 0 0 0) (qV G ad o) xN 0 0 28 [(0, .ref (ad 43)), (1, .long v1), (3, .long v3), (5, .long v5), (7, .long v7)] [] h := by
  intro n
  induction n with
  | zero =>
    intro v1 v3 v5 v7 σ h hr hf
    rw [lX12_tell_28] at hf
    cases hf
  | succ n ih =>
    intro v1 v3 v5 v7 σ h hr hf
    rw [lX12_tell_28] at hf
    refine rw_lload dX12_tell_28 4 rfl ?_
    refine rw_lconst (v := 0) dX12_tell_30 (by decide) ?_
    refine rw_lcmp dX12_tell_31 ?_
    refine rw_if_eq (tgt := 53) dX12_tell_32 (by decide) (fun c3 => ?_) (fun c3 => ?_)
    · rw [if_pos c3] at hf
      refine rw_lload_n dX12_tell_53 2 rfl rfl ?_
      refine rw_lconst (v := 0) dX12_tell_54 (by decide) ?_
      refine rw_lcmp dX12_tell_55 ?_
      refine rw_if_ge (tgt := 65) dX12_tell_56 (by decide) (fun c4 => ?_) (fun c4 => ?_)
      · rw [if_pos c4] at hf
        refine rw_lload dX12_tell_65 3 rfl ?_
        refine rw_sub [0, 1, 2] rfl ?_
        exact t_jX12_tell_67 (ad := ad) (G := G)  v1 v3 v5 σ _ hr hf
      · rw [if_neg c4] at hf
        refine rw_lload dX12_tell_59 3 rfl ?_
        refine rw_lneg dX12_tell_61 ?_
        refine rw_goto (tgt := 67) dX12_tell_62 (by decide) ?_
        refine rw_sub [0, 1, 2] rfl ?_
        exact t_jX12_tell_67 (ad := ad) (G := G)  v1 v3 (-v5) σ _ hr hf
    · rw [if_neg c3] at hf
      refine rw_lload dX12_tell_35 3 rfl ?_
      refine rw_lload dX12_tell_37 4 rfl ?_
      obtain ⟨hz5, hf⟩ := grd hf
      refine rw_lrem dX12_tell_39 hz5 ?_
      refine nmJ hf (fun x6 hf => ?_)
      refine rw_lstore (lv2 := [(9, .long x6), (0, .ref (ad 43)), (1, .long v1), (3, .long v3), (5, .long v5), (7, .long v7)]) dX12_tell_40 (by decide) rfl ?_
      refine rw_lload dX12_tell_42 5 rfl ?_
      refine rw_lstore (lv2 := [(5, .long v7), (9, .long x6), (0, .ref (ad 43)), (1, .long v1), (3, .long v3), (7, .long v7)]) dX12_tell_44 (by decide) rfl ?_
      refine rw_lload dX12_tell_46 1 rfl ?_
      refine rw_lstore (lv2 := [(7, .long x6), (5, .long v7), (9, .long x6), (0, .ref (ad 43)), (1, .long v1), (3, .long v3)]) dX12_tell_48 (by decide) rfl ?_
      refine rw_goto (tgt := 28) dX12_tell_50 (by decide) ?_
      refine rw_sub [3, 4, 5, 1, 0] rfl ?_
      exact ih v1 v3 v7 x6 σ _ hr hf
def jX12_tell_26  (v1 : Int64) (v3 : Int64) (v5 : Int64) (s0 : Int64) (σ : rS) : Option (Unit × rS) := lX12_tell_28 1000 v1 v3 v5 s0 σ
set_option maxHeartbeats 4000000 in
theorem t_jX12_tell_26 {G : rG} {ad : Nat → Nat} {o : (Unit × rS)}   (v1 : Int64) (v3 : Int64) (v5 : Int64) (s0 : Int64) (σ : rS) (h : rH) (hr : Rep G ad σ h) (hf : jX12_tell_26  v1 v3 v5 s0 σ = some o) : RW G mX12_tell (rm 0 0 0) (qV G ad o) xN 0 0 26 [(0, .ref (ad 43)), (1, .long v1), (3, .long v3), (5, .long v5)] [.long s0] h := by
  unfold jX12_tell_26 at hf
  refine rw_lstore (lv2 := [(7, .long s0), (0, .ref (ad 43)), (1, .long v1), (3, .long v3), (5, .long v5)]) dX12_tell_26 (by decide) rfl ?_
  refine rw_sub [1, 2, 3, 4, 0] rfl ?_
  exact t_lX12_tell_28 (ad := ad) (G := G)  1000 v1 v3 v5 s0 σ _ hr hf
def jX12_tell_12  (v1 : Int64) (v3 : Int64) (s0 : Int64) (σ : rS) : Option (Unit × rS) := if 0 ≤ (lg_cmp v3 0) then jX12_tell_26 v1 v3 s0 v3 σ else jX12_tell_26 v1 v3 s0 (-v3) σ
set_option maxHeartbeats 4000000 in
theorem t_jX12_tell_12 {G : rG} {ad : Nat → Nat} {o : (Unit × rS)}   (v1 : Int64) (v3 : Int64) (s0 : Int64) (σ : rS) (h : rH) (hr : Rep G ad σ h) (hf : jX12_tell_12  v1 v3 s0 σ = some o) : RW G mX12_tell (rm 0 0 0) (qV G ad o) xN 0 0 12 [(0, .ref (ad 43)), (1, .long v1), (3, .long v3)] [.long s0] h := by
  unfold jX12_tell_12 at hf
  refine rw_lstore (lv2 := [(5, .long s0), (0, .ref (ad 43)), (1, .long v1), (3, .long v3)]) dX12_tell_12 (by decide) rfl ?_
  refine rw_lload_n dX12_tell_14 3 rfl rfl ?_
  refine rw_lconst (v := 0) dX12_tell_15 (by decide) ?_
  refine rw_lcmp dX12_tell_16 ?_
  refine rw_if_ge (tgt := 25) dX12_tell_17 (by decide) (fun c2 => ?_) (fun c2 => ?_)
  · rw [if_pos c2] at hf
    refine rw_lload_n dX12_tell_25 3 rfl rfl ?_
    refine rw_sub [1, 2, 3, 0] rfl ?_
    exact t_jX12_tell_26 (ad := ad) (G := G)  v1 v3 s0 v3 σ _ hr hf
  · rw [if_neg c2] at hf
    refine rw_lload_n dX12_tell_20 3 rfl rfl ?_
    refine rw_lneg dX12_tell_21 ?_
    refine rw_goto (tgt := 26) dX12_tell_22 (by decide) ?_
    refine rw_sub [1, 2, 3, 0] rfl ?_
    exact t_jX12_tell_26 (ad := ad) (G := G)  v1 v3 s0 (-v3) σ _ hr hf
def fX12_tell (a0 : Int64) (a1 : Int64) (σ : rS) : Option (Unit × rS) := if 0 ≤ (lg_cmp a0 0) then jX12_tell_12 a0 a1 a0 σ else jX12_tell_12 a0 a1 (-a0) σ
set_option maxHeartbeats 4000000 in
theorem cmX12_tell {G : rG} {ad : Nat → Nat} {a0 : Int64} {a1 : Int64} {σ : rS} {h : rH} {o : (Unit × rS)} (hr : Rep G ad σ h) (hf : fX12_tell a0 a1 σ = some o) : rMT G mX12_tell (rm 0 0 0) [.ref (ad 43), .long a0, .long a1] h (qV G ad o) xN := by
  unfold fX12_tell at hf
  refine rw_met (by decide +kernel) rfl (Nat.le_of_ble_eq_true rfl) ?_
  show RW G _ _ _ _ 0 0 0 [(0, .ref (ad 43)), (1, .long a0), (3, .long a1)] [] h
  refine rw_lload_n dX12_tell_0 1 rfl rfl ?_
  refine rw_lconst (v := 0) dX12_tell_1 (by decide) ?_
  refine rw_lcmp dX12_tell_2 ?_
  refine rw_if_ge (tgt := 11) dX12_tell_3 (by decide) (fun c1 => ?_) (fun c1 => ?_)
  · rw [if_pos c1] at hf
    refine rw_lload_n dX12_tell_11 1 rfl rfl ?_
    exact t_jX12_tell_12 (ad := ad) (G := G)  a0 a1 a0 σ _ hr hf
  · rw [if_neg c1] at hf
    refine rw_lload_n dX12_tell_6 1 rfl rfl ?_
    refine rw_lneg dX12_tell_7 ?_
    refine rw_goto (tgt := 12) dX12_tell_8 (by decide) ?_
    exact t_jX12_tell_12 (ad := ad) (G := G)  a0 a1 (-a0) σ _ hr hf
def fX12_onPlane (a0 : Int32) (a1 : Int32) (a2 : Int32) (a3 : Int32) (a4 : Int32) (σ : rS) : Option (Unit × rS) := if inB (3 * a2) 1680 then vI (σ.2.2.1 59 (3 * a2).toNatClampNeg) fun x2 => if inB ((3 * a2) + 1) 1680 then vI (σ.2.2.1 59 ((3 * a2) + 1).toNatClampNeg) fun x4 => if inB ((3 * a2) + 2) 1680 then vI (σ.2.2.1 59 ((3 * a2) + 2).toNatClampNeg) fun x6 => if inB x4 16 then if inB x2 16 then if inB x4 16 then if inB x2 16 then if inB x6 16 then if inB x2 16 then if inB x6 16 then if inB x2 16 then (fX12_cross (((σ.2.2.1 44 x4.toNatClampNeg) - (σ.2.2.1 44 x2.toNatClampNeg)).toInt64) (((σ.2.2.1 45 x4.toNatClampNeg) - (σ.2.2.1 45 x2.toNatClampNeg)).toInt64) (((σ.2.2.1 44 x6.toNatClampNeg) - (σ.2.2.1 44 x2.toNatClampNeg)).toInt64) (((σ.2.2.1 45 x6.toNatClampNeg) - (σ.2.2.1 45 x2.toNatClampNeg)).toInt64) σ).bind fun q15 => vJ q15.1 fun x16 => if inB x4 16 then if inB x4 16 then if inB x6 16 then if inB x6 16 then (fX12_cross (((q15.2.2.2.1 44 x4.toNatClampNeg) - a3).toInt64) (((q15.2.2.2.1 45 x4.toNatClampNeg) - a4).toInt64) (((q15.2.2.2.1 44 x6.toNatClampNeg) - a3).toInt64) (((q15.2.2.2.1 45 x6.toNatClampNeg) - a4).toInt64) q15.2).bind fun q21 => vJ q21.1 fun x22 => if inB x6 16 then if inB x6 16 then if inB x2 16 then if inB x2 16 then (fX12_cross (((q21.2.2.2.1 44 x6.toNatClampNeg) - a3).toInt64) (((q21.2.2.2.1 45 x6.toNatClampNeg) - a4).toInt64) (((q21.2.2.2.1 44 x2.toNatClampNeg) - a3).toInt64) (((q21.2.2.2.1 45 x2.toNatClampNeg) - a4).toInt64) q21.2).bind fun q27 => vJ q27.1 fun x28 => if inB x2 16 then if inB x2 16 then if inB x4 16 then if inB x4 16 then (fX12_cross (((q27.2.2.2.1 44 x2.toNatClampNeg) - a3).toInt64) (((q27.2.2.2.1 45 x2.toNatClampNeg) - a4).toInt64) (((q27.2.2.2.1 44 x4.toNatClampNeg) - a3).toInt64) (((q27.2.2.2.1 45 x4.toNatClampNeg) - a4).toInt64) q27.2).bind fun q33 => vJ q33.1 fun x34 => (fX12_levelAt a0 a1 x2 q33.2).bind fun q35 => (fX12_levelAt a0 a1 x4 q35.2).bind fun q36 => (fX12_levelAt a0 a1 x6 q36.2).bind fun q37 => (fX12_tell (((q35.1 * x22) + (q36.1 * x28)) + (q37.1 * x34)) x16 q37.2).bind fun q38 => some ((), q38.2) else none else none else none else none else none else none else none else none else none else none else none else none else none else none else none else none else none else none else none else none else none else none else none
set_option maxHeartbeats 4000000 in
theorem cmX12_onPlane {G : rG} {ad : Nat → Nat} {a0 : Int32} {a1 : Int32} {a2 : Int32} {a3 : Int32} {a4 : Int32} {σ : rS} {h : rH} {o : (Unit × rS)} (hr : Rep G ad σ h) (hf : fX12_onPlane a0 a1 a2 a3 a4 σ = some o) : rMT G mX12_onPlane (rm 1 0 0) [.ref (ad 43), .int a0, .int a1, .int a2, .int a3, .int a4] h (qV G ad o) xN := by
  unfold fX12_onPlane at hf
  refine rw_met (by decide +kernel) rfl (Nat.le_of_ble_eq_true rfl) ?_
  show RW G _ _ _ _ 0 0 0 [(0, .ref (ad 43)), (1, .int a0), (2, .int a1), (3, .int a2), (4, .int a3), (5, .int a4)] [] h
  refine rw_aload_n dX12_onPlane_0 0 rfl rfl ?_
  refine sg_43_24 hr dX12_onPlane_1 fl1486 ?_
  refine rw_iconst (v := 3) dX12_onPlane_4 (by decide) ?_
  refine rw_iload_n dX12_onPlane_5 3 rfl rfl ?_
  refine rw_imul dX12_onPlane_6 ?_
  obtain ⟨hi1, hf⟩ := grd hf
  refine sl_59 hr dX12_onPlane_7 (inB_in hi1) ?_
  refine nmI hf (fun x2 hf => ?_)
  refine rw_istore (lv2 := [(6, .int x2), (0, .ref (ad 43)), (1, .int a0), (2, .int a1), (3, .int a2), (4, .int a3), (5, .int a4)]) dX12_onPlane_8 (by decide) rfl ?_
  refine rw_aload_n dX12_onPlane_10 1 rfl rfl ?_
  refine sg_43_24 hr dX12_onPlane_11 fl1486 ?_
  refine rw_iconst (v := 3) dX12_onPlane_14 (by decide) ?_
  refine rw_iload_n dX12_onPlane_15 4 rfl rfl ?_
  refine rw_imul dX12_onPlane_16 ?_
  refine rw_iconst (v := 1) dX12_onPlane_17 (by decide) ?_
  refine rw_iadd dX12_onPlane_18 ?_
  obtain ⟨hi3, hf⟩ := grd hf
  refine sl_59 hr dX12_onPlane_19 (inB_in hi3) ?_
  refine nmI hf (fun x4 hf => ?_)
  refine rw_istore (lv2 := [(7, .int x4), (6, .int x2), (0, .ref (ad 43)), (1, .int a0), (2, .int a1), (3, .int a2), (4, .int a3), (5, .int a4)]) dX12_onPlane_20 (by decide) rfl ?_
  refine rw_aload_n dX12_onPlane_22 2 rfl rfl ?_
  refine sg_43_24 hr dX12_onPlane_23 fl1486 ?_
  refine rw_iconst (v := 3) dX12_onPlane_26 (by decide) ?_
  refine rw_iload_n dX12_onPlane_27 5 rfl rfl ?_
  refine rw_imul dX12_onPlane_28 ?_
  refine rw_iconst (v := 2) dX12_onPlane_29 (by decide) ?_
  refine rw_iadd dX12_onPlane_30 ?_
  obtain ⟨hi5, hf⟩ := grd hf
  refine sl_59 hr dX12_onPlane_31 (inB_in hi5) ?_
  refine nmI hf (fun x6 hf => ?_)
  refine rw_istore (lv2 := [(8, .int x6), (7, .int x4), (6, .int x2), (0, .ref (ad 43)), (1, .int a0), (2, .int a1), (3, .int a2), (4, .int a3), (5, .int a4)]) dX12_onPlane_32 (by decide) rfl ?_
  refine rw_aload_n dX12_onPlane_34 3 rfl rfl ?_
  refine sg_43_3 hr dX12_onPlane_35 fl1465 ?_
  refine rw_iload dX12_onPlane_38 1 rfl ?_
  obtain ⟨hi7, hf⟩ := grd hf
  refine sl_44 hr dX12_onPlane_40 (inB_in hi7) ?_
  refine rw_aload_n dX12_onPlane_41 3 rfl rfl ?_
  refine sg_43_3 hr dX12_onPlane_42 fl1465 ?_
  refine rw_iload dX12_onPlane_45 2 rfl ?_
  obtain ⟨hi8, hf⟩ := grd hf
  refine sl_44 hr dX12_onPlane_47 (inB_in hi8) ?_
  refine rw_isub dX12_onPlane_48 ?_
  refine rw_i2l dX12_onPlane_49 ?_
  refine rw_aload_n dX12_onPlane_50 3 rfl rfl ?_
  refine sg_43_4 hr dX12_onPlane_51 fl1466 ?_
  refine rw_iload dX12_onPlane_54 1 rfl ?_
  obtain ⟨hi9, hf⟩ := grd hf
  refine sl_45 hr dX12_onPlane_56 (inB_in hi9) ?_
  refine rw_aload_n dX12_onPlane_57 3 rfl rfl ?_
  refine sg_43_4 hr dX12_onPlane_58 fl1466 ?_
  refine rw_iload dX12_onPlane_61 2 rfl ?_
  obtain ⟨hi10, hf⟩ := grd hf
  refine sl_45 hr dX12_onPlane_63 (inB_in hi10) ?_
  refine rw_isub dX12_onPlane_64 ?_
  refine rw_i2l dX12_onPlane_65 ?_
  refine rw_aload_n dX12_onPlane_66 3 rfl rfl ?_
  refine sg_43_3 hr dX12_onPlane_67 fl1465 ?_
  refine rw_iload dX12_onPlane_70 0 rfl ?_
  obtain ⟨hi11, hf⟩ := grd hf
  refine sl_44 hr dX12_onPlane_72 (inB_in hi11) ?_
  refine rw_aload_n dX12_onPlane_73 3 rfl rfl ?_
  refine sg_43_3 hr dX12_onPlane_74 fl1465 ?_
  refine rw_iload dX12_onPlane_77 2 rfl ?_
  obtain ⟨hi12, hf⟩ := grd hf
  refine sl_44 hr dX12_onPlane_79 (inB_in hi12) ?_
  refine rw_isub dX12_onPlane_80 ?_
  refine rw_i2l dX12_onPlane_81 ?_
  refine rw_aload_n dX12_onPlane_82 3 rfl rfl ?_
  refine sg_43_4 hr dX12_onPlane_83 fl1466 ?_
  refine rw_iload dX12_onPlane_86 0 rfl ?_
  obtain ⟨hi13, hf⟩ := grd hf
  refine sl_45 hr dX12_onPlane_88 (inB_in hi13) ?_
  refine rw_aload_n dX12_onPlane_89 3 rfl rfl ?_
  refine sg_43_4 hr dX12_onPlane_90 fl1466 ?_
  refine rw_iload dX12_onPlane_93 2 rfl ?_
  obtain ⟨hi14, hf⟩ := grd hf
  refine sl_45 hr dX12_onPlane_95 (inB_in hi14) ?_
  refine rw_isub dX12_onPlane_96 ?_
  refine rw_i2l dX12_onPlane_97 ?_
  obtain ⟨q15, hq15, hf⟩ := bnd hf
  refine kS_J (ad := ad) (As := [.long (((σ.2.2.1 44 x4.toNatClampNeg) - (σ.2.2.1 44 x2.toNatClampNeg)).toInt64), .long (((σ.2.2.1 45 x4.toNatClampNeg) - (σ.2.2.1 45 x2.toNatClampNeg)).toInt64), .long (((σ.2.2.1 44 x6.toNatClampNeg) - (σ.2.2.1 44 x2.toNatClampNeg)).toInt64), .long (((σ.2.2.1 45 x6.toNatClampNeg) - (σ.2.2.1 45 x2.toNatClampNeg)).toInt64)]) (st := []) dX12_onPlane_98 calX12_cross wm1671 wm1672 rfl rfl (Nat.le_of_ble_eq_true rfl) ⟨⟨by decide, by decide⟩, by decide, by decide⟩ (cmX12_cross hr hq15) (fun h hr => ?_)
  refine nmJ hf (fun x16 hf => ?_)
  refine rw_lstore (lv2 := [(9, .long x16), (8, .int x6), (7, .int x4), (6, .int x2), (0, .ref (ad 43)), (1, .int a0), (2, .int a1), (3, .int a2), (4, .int a3), (5, .int a4)]) dX12_onPlane_101 (by decide) rfl ?_
  refine rw_aload_n dX12_onPlane_103 4 rfl rfl ?_
  refine sg_43_3 hr dX12_onPlane_104 fl1465 ?_
  refine rw_iload dX12_onPlane_107 2 rfl ?_
  obtain ⟨hi17, hf⟩ := grd hf
  refine sl_44 hr dX12_onPlane_109 (inB_in hi17) ?_
  refine rw_iload dX12_onPlane_110 8 rfl ?_
  refine rw_isub dX12_onPlane_112 ?_
  refine rw_i2l dX12_onPlane_113 ?_
  refine rw_aload_n dX12_onPlane_114 4 rfl rfl ?_
  refine sg_43_4 hr dX12_onPlane_115 fl1466 ?_
  refine rw_iload dX12_onPlane_118 2 rfl ?_
  obtain ⟨hi18, hf⟩ := grd hf
  refine sl_45 hr dX12_onPlane_120 (inB_in hi18) ?_
  refine rw_iload dX12_onPlane_121 9 rfl ?_
  refine rw_isub dX12_onPlane_123 ?_
  refine rw_i2l dX12_onPlane_124 ?_
  refine rw_aload_n dX12_onPlane_125 4 rfl rfl ?_
  refine sg_43_3 hr dX12_onPlane_126 fl1465 ?_
  refine rw_iload dX12_onPlane_129 1 rfl ?_
  obtain ⟨hi19, hf⟩ := grd hf
  refine sl_44 hr dX12_onPlane_131 (inB_in hi19) ?_
  refine rw_iload dX12_onPlane_132 8 rfl ?_
  refine rw_isub dX12_onPlane_134 ?_
  refine rw_i2l dX12_onPlane_135 ?_
  refine rw_aload_n dX12_onPlane_136 4 rfl rfl ?_
  refine sg_43_4 hr dX12_onPlane_137 fl1466 ?_
  refine rw_iload dX12_onPlane_140 1 rfl ?_
  obtain ⟨hi20, hf⟩ := grd hf
  refine sl_45 hr dX12_onPlane_142 (inB_in hi20) ?_
  refine rw_iload dX12_onPlane_143 9 rfl ?_
  refine rw_isub dX12_onPlane_145 ?_
  refine rw_i2l dX12_onPlane_146 ?_
  obtain ⟨q21, hq21, hf⟩ := bnd hf
  refine kS_J (ad := ad) (As := [.long (((q15.2.2.2.1 44 x4.toNatClampNeg) - a3).toInt64), .long (((q15.2.2.2.1 45 x4.toNatClampNeg) - a4).toInt64), .long (((q15.2.2.2.1 44 x6.toNatClampNeg) - a3).toInt64), .long (((q15.2.2.2.1 45 x6.toNatClampNeg) - a4).toInt64)]) (st := []) dX12_onPlane_147 calX12_cross wm1671 wm1672 rfl rfl (Nat.le_of_ble_eq_true rfl) ⟨⟨by decide, by decide⟩, by decide, by decide⟩ (cmX12_cross hr hq21) (fun h hr => ?_)
  refine nmJ hf (fun x22 hf => ?_)
  refine rw_lstore (lv2 := [(11, .long x22), (9, .long x16), (8, .int x6), (7, .int x4), (6, .int x2), (0, .ref (ad 43)), (1, .int a0), (2, .int a1), (3, .int a2), (4, .int a3), (5, .int a4)]) dX12_onPlane_150 (by decide) rfl ?_
  refine rw_aload_n dX12_onPlane_152 5 rfl rfl ?_
  refine sg_43_3 hr dX12_onPlane_153 fl1465 ?_
  refine rw_iload dX12_onPlane_156 2 rfl ?_
  obtain ⟨hi23, hf⟩ := grd hf
  refine sl_44 hr dX12_onPlane_158 (inB_in hi23) ?_
  refine rw_iload dX12_onPlane_159 9 rfl ?_
  refine rw_isub dX12_onPlane_161 ?_
  refine rw_i2l dX12_onPlane_162 ?_
  refine rw_aload_n dX12_onPlane_163 5 rfl rfl ?_
  refine sg_43_4 hr dX12_onPlane_164 fl1466 ?_
  refine rw_iload dX12_onPlane_167 2 rfl ?_
  obtain ⟨hi24, hf⟩ := grd hf
  refine sl_45 hr dX12_onPlane_169 (inB_in hi24) ?_
  refine rw_iload dX12_onPlane_170 10 rfl ?_
  refine rw_isub dX12_onPlane_172 ?_
  refine rw_i2l dX12_onPlane_173 ?_
  refine rw_aload_n dX12_onPlane_174 5 rfl rfl ?_
  refine sg_43_3 hr dX12_onPlane_175 fl1465 ?_
  refine rw_iload dX12_onPlane_178 4 rfl ?_
  obtain ⟨hi25, hf⟩ := grd hf
  refine sl_44 hr dX12_onPlane_180 (inB_in hi25) ?_
  refine rw_iload dX12_onPlane_181 9 rfl ?_
  refine rw_isub dX12_onPlane_183 ?_
  refine rw_i2l dX12_onPlane_184 ?_
  refine rw_aload_n dX12_onPlane_185 5 rfl rfl ?_
  refine sg_43_4 hr dX12_onPlane_186 fl1466 ?_
  refine rw_iload dX12_onPlane_189 4 rfl ?_
  obtain ⟨hi26, hf⟩ := grd hf
  refine sl_45 hr dX12_onPlane_191 (inB_in hi26) ?_
  refine rw_iload dX12_onPlane_192 10 rfl ?_
  refine rw_isub dX12_onPlane_194 ?_
  refine rw_i2l dX12_onPlane_195 ?_
  obtain ⟨q27, hq27, hf⟩ := bnd hf
  refine kS_J (ad := ad) (As := [.long (((q21.2.2.2.1 44 x6.toNatClampNeg) - a3).toInt64), .long (((q21.2.2.2.1 45 x6.toNatClampNeg) - a4).toInt64), .long (((q21.2.2.2.1 44 x2.toNatClampNeg) - a3).toInt64), .long (((q21.2.2.2.1 45 x2.toNatClampNeg) - a4).toInt64)]) (st := []) dX12_onPlane_196 calX12_cross wm1671 wm1672 rfl rfl (Nat.le_of_ble_eq_true rfl) ⟨⟨by decide, by decide⟩, by decide, by decide⟩ (cmX12_cross hr hq27) (fun h hr => ?_)
  refine nmJ hf (fun x28 hf => ?_)
  refine rw_lstore (lv2 := [(13, .long x28), (11, .long x22), (9, .long x16), (8, .int x6), (7, .int x4), (6, .int x2), (0, .ref (ad 43)), (1, .int a0), (2, .int a1), (3, .int a2), (4, .int a3), (5, .int a4)]) dX12_onPlane_199 (by decide) rfl ?_
  refine rw_aload_n dX12_onPlane_201 6 rfl rfl ?_
  refine sg_43_3 hr dX12_onPlane_202 fl1465 ?_
  refine rw_iload dX12_onPlane_205 5 rfl ?_
  obtain ⟨hi29, hf⟩ := grd hf
  refine sl_44 hr dX12_onPlane_207 (inB_in hi29) ?_
  refine rw_iload dX12_onPlane_208 10 rfl ?_
  refine rw_isub dX12_onPlane_210 ?_
  refine rw_i2l dX12_onPlane_211 ?_
  refine rw_aload_n dX12_onPlane_212 6 rfl rfl ?_
  refine sg_43_4 hr dX12_onPlane_213 fl1466 ?_
  refine rw_iload dX12_onPlane_216 5 rfl ?_
  obtain ⟨hi30, hf⟩ := grd hf
  refine sl_45 hr dX12_onPlane_218 (inB_in hi30) ?_
  refine rw_iload dX12_onPlane_219 11 rfl ?_
  refine rw_isub dX12_onPlane_221 ?_
  refine rw_i2l dX12_onPlane_222 ?_
  refine rw_aload_n dX12_onPlane_223 6 rfl rfl ?_
  refine sg_43_3 hr dX12_onPlane_224 fl1465 ?_
  refine rw_iload dX12_onPlane_227 4 rfl ?_
  obtain ⟨hi31, hf⟩ := grd hf
  refine sl_44 hr dX12_onPlane_229 (inB_in hi31) ?_
  refine rw_iload dX12_onPlane_230 10 rfl ?_
  refine rw_isub dX12_onPlane_232 ?_
  refine rw_i2l dX12_onPlane_233 ?_
  refine rw_aload_n dX12_onPlane_234 6 rfl rfl ?_
  refine sg_43_4 hr dX12_onPlane_235 fl1466 ?_
  refine rw_iload dX12_onPlane_238 4 rfl ?_
  obtain ⟨hi32, hf⟩ := grd hf
  refine sl_45 hr dX12_onPlane_240 (inB_in hi32) ?_
  refine rw_iload dX12_onPlane_241 11 rfl ?_
  refine rw_isub dX12_onPlane_243 ?_
  refine rw_i2l dX12_onPlane_244 ?_
  obtain ⟨q33, hq33, hf⟩ := bnd hf
  refine kS_J (ad := ad) (As := [.long (((q27.2.2.2.1 44 x2.toNatClampNeg) - a3).toInt64), .long (((q27.2.2.2.1 45 x2.toNatClampNeg) - a4).toInt64), .long (((q27.2.2.2.1 44 x4.toNatClampNeg) - a3).toInt64), .long (((q27.2.2.2.1 45 x4.toNatClampNeg) - a4).toInt64)]) (st := []) dX12_onPlane_245 calX12_cross wm1671 wm1672 rfl rfl (Nat.le_of_ble_eq_true rfl) ⟨⟨by decide, by decide⟩, by decide, by decide⟩ (cmX12_cross hr hq33) (fun h hr => ?_)
  refine nmJ hf (fun x34 hf => ?_)
  refine rw_lstore (lv2 := [(15, .long x34), (13, .long x28), (11, .long x22), (9, .long x16), (8, .int x6), (7, .int x4), (6, .int x2), (0, .ref (ad 43)), (1, .int a0), (2, .int a1), (3, .int a2), (4, .int a3), (5, .int a4)]) dX12_onPlane_248 (by decide) rfl ?_
  refine rw_aload_n dX12_onPlane_250 7 rfl rfl ?_
  refine rw_aload_n dX12_onPlane_251 7 rfl rfl ?_
  refine rw_iload_n dX12_onPlane_252 8 rfl rfl ?_
  refine rw_iload_n dX12_onPlane_253 9 rfl rfl ?_
  refine rw_iload dX12_onPlane_254 6 rfl ?_
  obtain ⟨q35, hq35, hf⟩ := bnd hf
  refine kV_J (ad := ad) (As := [.int a0, .int a1, .int x2]) (st := [.ref (ad 43)]) dX12_onPlane_256 calX12_levelAt wm1780 wm1782 wm50 rfl rfl (rc_43 hr) (ci := 12) (by decide) rfl rfl (Nat.le_of_ble_eq_true rfl) ⟨⟨by decide, by decide⟩, by decide, by decide⟩ (cmX12_levelAt hr hq35) (fun h hr => ?_)
  refine rw_lload dX12_onPlane_259 2 rfl ?_
  refine rw_lmul dX12_onPlane_261 ?_
  refine rw_aload_n dX12_onPlane_262 7 rfl rfl ?_
  refine rw_iload_n dX12_onPlane_263 8 rfl rfl ?_
  refine rw_iload_n dX12_onPlane_264 9 rfl rfl ?_
  refine rw_iload dX12_onPlane_265 5 rfl ?_
  obtain ⟨q36, hq36, hf⟩ := bnd hf
  refine kV_J (ad := ad) (As := [.int a0, .int a1, .int x4]) (st := [.long (q35.1 * x22), .ref (ad 43)]) dX12_onPlane_267 calX12_levelAt wm1780 wm1782 wm50 rfl rfl (rc_43 hr) (ci := 12) (by decide) rfl rfl (Nat.le_of_ble_eq_true rfl) ⟨⟨by decide, by decide⟩, by decide, by decide⟩ (cmX12_levelAt hr hq36) (fun h hr => ?_)
  refine rw_lload dX12_onPlane_270 1 rfl ?_
  refine rw_lmul dX12_onPlane_272 ?_
  refine rw_ladd dX12_onPlane_273 ?_
  refine rw_aload_n dX12_onPlane_274 7 rfl rfl ?_
  refine rw_iload_n dX12_onPlane_275 8 rfl rfl ?_
  refine rw_iload_n dX12_onPlane_276 9 rfl rfl ?_
  refine rw_iload dX12_onPlane_277 4 rfl ?_
  obtain ⟨q37, hq37, hf⟩ := bnd hf
  refine kV_J (ad := ad) (As := [.int a0, .int a1, .int x6]) (st := [.long ((q35.1 * x22) + (q36.1 * x28)), .ref (ad 43)]) dX12_onPlane_279 calX12_levelAt wm1780 wm1782 wm50 rfl rfl (rc_43 hr) (ci := 12) (by decide) rfl rfl (Nat.le_of_ble_eq_true rfl) ⟨⟨by decide, by decide⟩, by decide, by decide⟩ (cmX12_levelAt hr hq37) (fun h hr => ?_)
  refine rw_lload dX12_onPlane_282 0 rfl ?_
  refine rw_lmul dX12_onPlane_284 ?_
  refine rw_ladd dX12_onPlane_285 ?_
  refine rw_lload dX12_onPlane_286 3 rfl ?_
  obtain ⟨q38, hq38, hf⟩ := bnd hf
  refine kV_V (ad := ad) (As := [.long (((q35.1 * x22) + (q36.1 * x28)) + (q37.1 * x34)), .long x16]) (st := []) dX12_onPlane_288 calX12_tell wm1784 wm1786 wm51 rfl rfl (rc_43 hr) (ci := 12) (by decide) rfl rfl (Nat.le_of_ble_eq_true rfl) ⟨⟨by decide, by decide⟩, by decide, by decide⟩ (cmX12_tell hr hq38) (fun h hr => ?_)
  replace hf := Option.some.inj hf
  subst hf
  exact rw_return dX12_onPlane_291 rfl ⟨rfl, hr⟩ (by decide) (by decide)
def jX12_findLevel_238   (σ : rS) : Option (Unit × rS) := some ((), σ)
set_option maxHeartbeats 4000000 in
theorem t_jX12_findLevel_238 {G : rG} {ad : Nat → Nat} {o : (Unit × rS)}    (σ : rS) (h : rH) (hr : Rep G ad σ h) (hf : jX12_findLevel_238   σ = some o) : RW G mX12_findLevel (rm 3 0 0) (qV G ad o) xN 0 0 238 [] [] h := by
  unfold jX12_findLevel_238 at hf
  replace hf := Option.some.inj hf
  subst hf
  exact rw_return dX12_findLevel_238 rfl ⟨rfl, hr⟩ (by decide) (by decide)
def jX12_findLevel_232 (k117 : Int32 → Int32 → Int32 → Int32 → Int32 → rS → Option (Unit × rS)) (v1 : Int32) (v2 : Int32) (v3 : Int32) (v4 : Int32) (v5 : Int32) (σ : rS) : Option (Unit × rS) := vI (v5 + 1) fun x35 => k117 v1 v2 v3 v4 x35 σ
set_option maxHeartbeats 4000000 in
theorem t_jX12_findLevel_232 {G : rG} {ad : Nat → Nat} {o : (Unit × rS)} (k117 : Int32 → Int32 → Int32 → Int32 → Int32 → rS → Option (Unit × rS)) (hk117 : ∀ (v1 : Int32) (v2 : Int32) (v3 : Int32) (v4 : Int32) (v5 : Int32) (σ : rS) (h : rH), Rep G ad σ h → k117 v1 v2 v3 v4 v5 σ = some o → RW G mX12_findLevel (rm 3 0 0) (qV G ad o) xN 0 0 117 [(0, .ref (ad 43)), (1, .int v1), (2, .int v2), (3, .int v3), (4, .int v4), (5, .int v5)] [] h) (v1 : Int32) (v2 : Int32) (v3 : Int32) (v4 : Int32) (v5 : Int32) (σ : rS) (h : rH) (hr : Rep G ad σ h) (hf : jX12_findLevel_232 k117 v1 v2 v3 v4 v5 σ = some o) : RW G mX12_findLevel (rm 3 0 0) (qV G ad o) xN 0 0 232 [(0, .ref (ad 43)), (1, .int v1), (2, .int v2), (3, .int v3), (4, .int v4), (5, .int v5)] [] h := by
  unfold jX12_findLevel_232 at hf
  refine rw_iinc (v := v5 + 1) (lv2 := [(5, .int (v5 + 1)), (0, .ref (ad 43)), (1, .int v1), (2, .int v2), (3, .int v3), (4, .int v4)]) dX12_findLevel_232 5 rfl rfl (by decide) rfl ?_
  refine nmL hf (fun x35 hf => ?_)
  refine rw_goto (tgt := 117) dX12_findLevel_235 (by decide) ?_
  refine rw_sub [1, 2, 3, 4, 5, 0] rfl ?_
  exact hk117 v1 v2 v3 v4 x35 σ _ hr hf
def lX12_findLevel_117  : Nat → Int32 → Int32 → Int32 → Int32 → Int32 → rS → Option (Unit × rS)
  | 0, _, _, _, _, _, _ => none
  | n + 1, v1, v2, v3, v4, v5, σ => if (σ.1 43 23) ≤ v5 then jX12_findLevel_238 σ else if (lg_cmp (σ.2.1 43 30) 0) = 0 then if inB (3 * v5) 1680 then vI (σ.2.2.1 59 (3 * v5).toNatClampNeg) fun x21 => if inB ((3 * v5) + 1) 1680 then vI (σ.2.2.1 59 ((3 * v5) + 1).toNatClampNeg) fun x23 => if inB ((3 * v5) + 2) 1680 then vI (σ.2.2.1 59 ((3 * v5) + 2).toNatClampNeg) fun x25 => (fX12_hasPlace x21 x23 x25 v3 v4 σ).bind fun q26 => (if q26.1 = 0 then jX12_findLevel_232 (lX12_findLevel_117 n) v1 v2 v3 v4 v5 q26.2 else (fX12_has v1 v2 x21 q26.2).bind fun q28 => if q28.1 = 0 then jX12_findLevel_232 (lX12_findLevel_117 n) v1 v2 v3 v4 v5 q28.2 else (fX12_has v1 v2 x23 q28.2).bind fun q30 => if q30.1 = 0 then jX12_findLevel_232 (lX12_findLevel_117 n) v1 v2 v3 v4 v5 q30.2 else (fX12_has v1 v2 x25 q30.2).bind fun q32 => if q32.1 = 0 then jX12_findLevel_232 (lX12_findLevel_117 n) v1 v2 v3 v4 v5 q32.2 else (fX12_onPlane v1 v2 v5 v3 v4 q32.2).bind fun q34 => jX12_findLevel_232 (lX12_findLevel_117 n) v1 v2 v3 v4 v5 q34.2) else none else none else none else jX12_findLevel_238 σ
set_option maxHeartbeats 4000000 in
theorem t_lX12_findLevel_117 {G : rG} {ad : Nat → Nat} {o : (Unit × rS)}   : ∀ (n : Nat) (v1 : Int32) (v2 : Int32) (v3 : Int32) (v4 : Int32) (v5 : Int32) (σ : rS) (h : rH), Rep G ad σ h → lX12_findLevel_117  n v1 v2 v3 v4 v5 σ = some o → RW G mX12_findLevel (rm 3 0 0) (qV G ad o) xN 0 0 117 [(0, .ref (ad 43)), (1, .int v1), (2, .int v2), (3, .int v3), (4, .int v4), (5, .int v5)] [] h := by
  intro n
  induction n with
  | zero =>
    intro v1 v2 v3 v4 v5 σ h hr hf
    rw [lX12_findLevel_117] at hf
    cases hf
  | succ n ih =>
    intro v1 v2 v3 v4 v5 σ h hr hf
    rw [lX12_findLevel_117] at hf
    refine rw_iload dX12_findLevel_117 5 rfl ?_
    refine rw_aload_n dX12_findLevel_119 0 rfl rfl ?_
    refine sg_43_23 hr dX12_findLevel_120 fl1485 ?_
    refine rw_icmp_ge (tgt := 238) dX12_findLevel_123 (by decide) (fun c18 => ?_) (fun c18 => ?_)
    · rw [if_pos c18] at hf
      refine rw_sub [] rfl ?_
      exact t_jX12_findLevel_238 (ad := ad) (G := G)  σ _ hr hf
    · rw [if_neg c18] at hf
      refine rw_aload_n dX12_findLevel_126 0 rfl rfl ?_
      refine sg_43_30 hr dX12_findLevel_127 fl1492 ?_
      refine rw_lconst (v := 0) dX12_findLevel_130 (by decide) ?_
      refine rw_lcmp dX12_findLevel_131 ?_
      refine rw_if_ne (tgt := 238) dX12_findLevel_132 (by decide) (fun c19 => ?_) (fun c19 => ?_)
      · rw [if_neg c19] at hf
        refine rw_sub [] rfl ?_
        exact t_jX12_findLevel_238 (ad := ad) (G := G)  σ _ hr hf
      · rw [if_pos c19] at hf
        refine rw_aload_n dX12_findLevel_135 0 rfl rfl ?_
        refine sg_43_24 hr dX12_findLevel_136 fl1486 ?_
        refine rw_iconst (v := 3) dX12_findLevel_139 (by decide) ?_
        refine rw_iload dX12_findLevel_140 5 rfl ?_
        refine rw_imul dX12_findLevel_142 ?_
        obtain ⟨hi20, hf⟩ := grd hf
        refine sl_59 hr dX12_findLevel_143 (inB_in hi20) ?_
        refine nmI hf (fun x21 hf => ?_)
        refine rw_istore (lv2 := [(6, .int x21), (0, .ref (ad 43)), (1, .int v1), (2, .int v2), (3, .int v3), (4, .int v4), (5, .int v5)]) dX12_findLevel_144 (by decide) rfl ?_
        refine rw_aload_n dX12_findLevel_146 1 rfl rfl ?_
        refine sg_43_24 hr dX12_findLevel_147 fl1486 ?_
        refine rw_iconst (v := 3) dX12_findLevel_150 (by decide) ?_
        refine rw_iload dX12_findLevel_151 6 rfl ?_
        refine rw_imul dX12_findLevel_153 ?_
        refine rw_iconst (v := 1) dX12_findLevel_154 (by decide) ?_
        refine rw_iadd dX12_findLevel_155 ?_
        obtain ⟨hi22, hf⟩ := grd hf
        refine sl_59 hr dX12_findLevel_156 (inB_in hi22) ?_
        refine nmI hf (fun x23 hf => ?_)
        refine rw_istore (lv2 := [(7, .int x23), (6, .int x21), (0, .ref (ad 43)), (1, .int v1), (2, .int v2), (3, .int v3), (4, .int v4), (5, .int v5)]) dX12_findLevel_157 (by decide) rfl ?_
        refine rw_aload_n dX12_findLevel_159 2 rfl rfl ?_
        refine sg_43_24 hr dX12_findLevel_160 fl1486 ?_
        refine rw_iconst (v := 3) dX12_findLevel_163 (by decide) ?_
        refine rw_iload dX12_findLevel_164 7 rfl ?_
        refine rw_imul dX12_findLevel_166 ?_
        refine rw_iconst (v := 2) dX12_findLevel_167 (by decide) ?_
        refine rw_iadd dX12_findLevel_168 ?_
        obtain ⟨hi24, hf⟩ := grd hf
        refine sl_59 hr dX12_findLevel_169 (inB_in hi24) ?_
        refine nmI hf (fun x25 hf => ?_)
        refine rw_istore (lv2 := [(8, .int x25), (7, .int x23), (6, .int x21), (0, .ref (ad 43)), (1, .int v1), (2, .int v2), (3, .int v3), (4, .int v4), (5, .int v5)]) dX12_findLevel_170 (by decide) rfl ?_
        refine rw_aload_n dX12_findLevel_172 3 rfl rfl ?_
        refine rw_iload dX12_findLevel_173 2 rfl ?_
        refine rw_iload dX12_findLevel_175 1 rfl ?_
        refine rw_iload dX12_findLevel_177 0 rfl ?_
        refine rw_iload_n dX12_findLevel_179 6 rfl rfl ?_
        refine rw_iload dX12_findLevel_180 7 rfl ?_
        obtain ⟨q26, hq26, hf⟩ := bnd hf
        refine kV_I (ad := ad) (As := [.int x21, .int x23, .int x25, .int v3, .int v4]) (st := []) dX12_findLevel_182 calX12_hasPlace wm1696 wm1698 wm40 rfl rfl (rc_43 hr) (ci := 12) (by decide) rfl rfl (Nat.le_of_ble_eq_true rfl) ⟨⟨by decide, by decide⟩, by decide, by decide⟩ (cmX12_hasPlace hr hq26) (fun h hr => ?_)
        refine rw_if_eq (tgt := 232) dX12_findLevel_185 (by decide) (fun c27 => ?_) (fun c27 => ?_)
        · rw [if_pos c27] at hf
          refine rw_sub [3, 4, 5, 6, 7, 8] rfl ?_
          exact t_jX12_findLevel_232 (ad := ad) (G := G) (lX12_findLevel_117 n) ih v1 v2 v3 v4 v5 q26.2 _ hr hf
        · rw [if_neg c27] at hf
          refine rw_aload_n dX12_findLevel_188 3 rfl rfl ?_
          refine rw_iload_n dX12_findLevel_189 4 rfl rfl ?_
          refine rw_iload_n dX12_findLevel_190 5 rfl rfl ?_
          refine rw_iload dX12_findLevel_191 2 rfl ?_
          obtain ⟨q28, hq28, hf⟩ := bnd hf
          refine kV_I (ad := ad) (As := [.int v1, .int v2, .int x21]) (st := []) dX12_findLevel_193 calX12_has wm1776 wm1778 wm49 rfl rfl (rc_43 hr) (ci := 12) (by decide) rfl rfl (Nat.le_of_ble_eq_true rfl) ⟨⟨by decide, by decide⟩, by decide, by decide⟩ (cmX12_has hr hq28) (fun h hr => ?_)
          refine rw_if_eq (tgt := 232) dX12_findLevel_196 (by decide) (fun c29 => ?_) (fun c29 => ?_)
          · rw [if_pos c29] at hf
            refine rw_sub [3, 4, 5, 6, 7, 8] rfl ?_
            exact t_jX12_findLevel_232 (ad := ad) (G := G) (lX12_findLevel_117 n) ih v1 v2 v3 v4 v5 q28.2 _ hr hf
          · rw [if_neg c29] at hf
            refine rw_aload_n dX12_findLevel_199 3 rfl rfl ?_
            refine rw_iload_n dX12_findLevel_200 4 rfl rfl ?_
            refine rw_iload_n dX12_findLevel_201 5 rfl rfl ?_
            refine rw_iload dX12_findLevel_202 1 rfl ?_
            obtain ⟨q30, hq30, hf⟩ := bnd hf
            refine kV_I (ad := ad) (As := [.int v1, .int v2, .int x23]) (st := []) dX12_findLevel_204 calX12_has wm1776 wm1778 wm49 rfl rfl (rc_43 hr) (ci := 12) (by decide) rfl rfl (Nat.le_of_ble_eq_true rfl) ⟨⟨by decide, by decide⟩, by decide, by decide⟩ (cmX12_has hr hq30) (fun h hr => ?_)
            refine rw_if_eq (tgt := 232) dX12_findLevel_207 (by decide) (fun c31 => ?_) (fun c31 => ?_)
            · rw [if_pos c31] at hf
              refine rw_sub [3, 4, 5, 6, 7, 8] rfl ?_
              exact t_jX12_findLevel_232 (ad := ad) (G := G) (lX12_findLevel_117 n) ih v1 v2 v3 v4 v5 q30.2 _ hr hf
            · rw [if_neg c31] at hf
              refine rw_aload_n dX12_findLevel_210 3 rfl rfl ?_
              refine rw_iload_n dX12_findLevel_211 4 rfl rfl ?_
              refine rw_iload_n dX12_findLevel_212 5 rfl rfl ?_
              refine rw_iload dX12_findLevel_213 0 rfl ?_
              obtain ⟨q32, hq32, hf⟩ := bnd hf
              refine kV_I (ad := ad) (As := [.int v1, .int v2, .int x25]) (st := []) dX12_findLevel_215 calX12_has wm1776 wm1778 wm49 rfl rfl (rc_43 hr) (ci := 12) (by decide) rfl rfl (Nat.le_of_ble_eq_true rfl) ⟨⟨by decide, by decide⟩, by decide, by decide⟩ (cmX12_has hr hq32) (fun h hr => ?_)
              refine rw_if_eq (tgt := 232) dX12_findLevel_218 (by decide) (fun c33 => ?_) (fun c33 => ?_)
              · rw [if_pos c33] at hf
                refine rw_sub [3, 4, 5, 6, 7, 8] rfl ?_
                exact t_jX12_findLevel_232 (ad := ad) (G := G) (lX12_findLevel_117 n) ih v1 v2 v3 v4 v5 q32.2 _ hr hf
              · rw [if_neg c33] at hf
                refine rw_aload_n dX12_findLevel_221 3 rfl rfl ?_
                refine rw_iload_n dX12_findLevel_222 4 rfl rfl ?_
                refine rw_iload_n dX12_findLevel_223 5 rfl rfl ?_
                refine rw_iload dX12_findLevel_224 8 rfl ?_
                refine rw_iload_n dX12_findLevel_226 6 rfl rfl ?_
                refine rw_iload dX12_findLevel_227 7 rfl ?_
                obtain ⟨q34, hq34, hf⟩ := bnd hf
                refine kV_V (ad := ad) (As := [.int v1, .int v2, .int v5, .int v3, .int v4]) (st := []) dX12_findLevel_229 calX12_onPlane wm1788 wm1790 wm52 rfl rfl (rc_43 hr) (ci := 12) (by decide) rfl rfl (Nat.le_of_ble_eq_true rfl) ⟨⟨by decide, by decide⟩, by decide, by decide⟩ (cmX12_onPlane hr hq34) (fun h hr => ?_)
                refine rw_sub [3, 4, 5, 6, 7, 8] rfl ?_
                exact t_jX12_findLevel_232 (ad := ad) (G := G) (lX12_findLevel_117 n) ih v1 v2 v3 v4 v5 q34.2 _ hr hf
def jX12_findLevel_114  (v1 : Int32) (v2 : Int32) (v3 : Int32) (v4 : Int32) (σ : rS) : Option (Unit × rS) := lX12_findLevel_117 1000 v1 v2 v3 v4 0 σ
set_option maxHeartbeats 4000000 in
theorem t_jX12_findLevel_114 {G : rG} {ad : Nat → Nat} {o : (Unit × rS)}   (v1 : Int32) (v2 : Int32) (v3 : Int32) (v4 : Int32) (σ : rS) (h : rH) (hr : Rep G ad σ h) (hf : jX12_findLevel_114  v1 v2 v3 v4 σ = some o) : RW G mX12_findLevel (rm 3 0 0) (qV G ad o) xN 0 0 114 [(0, .ref (ad 43)), (1, .int v1), (2, .int v2), (3, .int v3), (4, .int v4)] [] h := by
  unfold jX12_findLevel_114 at hf
  refine rw_iconst (v := 0) dX12_findLevel_114 (by decide) ?_
  refine rw_istore (lv2 := [(5, .int 0), (0, .ref (ad 43)), (1, .int v1), (2, .int v2), (3, .int v3), (4, .int v4)]) dX12_findLevel_115 (by decide) rfl ?_
  refine rw_sub [1, 2, 3, 4, 5, 0] rfl ?_
  exact t_lX12_findLevel_117 (ad := ad) (G := G)  1000 v1 v2 v3 v4 0 σ _ hr hf
def jX12_findLevel_108 (k43 : Int32 → Int32 → Int32 → Int32 → Int32 → rS → Option (Unit × rS)) (v1 : Int32) (v2 : Int32) (v3 : Int32) (v4 : Int32) (v5 : Int32) (σ : rS) : Option (Unit × rS) := vI (v5 + 1) fun x36 => k43 v1 v2 v3 v4 x36 σ
set_option maxHeartbeats 4000000 in
theorem t_jX12_findLevel_108 {G : rG} {ad : Nat → Nat} {o : (Unit × rS)} (k43 : Int32 → Int32 → Int32 → Int32 → Int32 → rS → Option (Unit × rS)) (hk43 : ∀ (v1 : Int32) (v2 : Int32) (v3 : Int32) (v4 : Int32) (v5 : Int32) (σ : rS) (h : rH), Rep G ad σ h → k43 v1 v2 v3 v4 v5 σ = some o → RW G mX12_findLevel (rm 3 0 0) (qV G ad o) xN 0 0 43 [(0, .ref (ad 43)), (1, .int v1), (2, .int v2), (3, .int v3), (4, .int v4), (5, .int v5)] [] h) (v1 : Int32) (v2 : Int32) (v3 : Int32) (v4 : Int32) (v5 : Int32) (σ : rS) (h : rH) (hr : Rep G ad σ h) (hf : jX12_findLevel_108 k43 v1 v2 v3 v4 v5 σ = some o) : RW G mX12_findLevel (rm 3 0 0) (qV G ad o) xN 0 0 108 [(0, .ref (ad 43)), (1, .int v1), (2, .int v2), (3, .int v3), (4, .int v4), (5, .int v5)] [] h := by
  unfold jX12_findLevel_108 at hf
  refine rw_iinc (v := v5 + 1) (lv2 := [(5, .int (v5 + 1)), (0, .ref (ad 43)), (1, .int v1), (2, .int v2), (3, .int v3), (4, .int v4)]) dX12_findLevel_108 5 rfl rfl (by decide) rfl ?_
  refine nmL hf (fun x36 hf => ?_)
  refine rw_goto (tgt := 43) dX12_findLevel_111 (by decide) ?_
  refine rw_sub [1, 2, 3, 4, 5, 0] rfl ?_
  exact hk43 v1 v2 v3 v4 x36 σ _ hr hf
def lX12_findLevel_43  : Nat → Int32 → Int32 → Int32 → Int32 → Int32 → rS → Option (Unit × rS)
  | 0, _, _, _, _, _, _ => none
  | n + 1, v1, v2, v3, v4, v5, σ => if (σ.1 43 2) ≤ v5 then jX12_findLevel_114 v1 v2 v3 v4 σ else if (lg_cmp (σ.2.1 43 30) 0) = 0 then if inB v5 16 then (if (σ.2.2.1 44 v5.toNatClampNeg) = v3 then if inB v5 16 then (if (σ.2.2.1 45 v5.toNatClampNeg) = v4 then (fX12_has v1 v2 v5 σ).bind fun q14 => if q14.1 = 0 then jX12_findLevel_108 (lX12_findLevel_43 n) v1 v2 v3 v4 v5 q14.2 else (fX12_levelAt v1 v2 v5 q14.2).bind fun q16 => (fX12_tell q16.1 1 q16.2).bind fun q17 => jX12_findLevel_108 (lX12_findLevel_43 n) v1 v2 v3 v4 v5 q17.2 else jX12_findLevel_108 (lX12_findLevel_43 n) v1 v2 v3 v4 v5 σ) else none else jX12_findLevel_108 (lX12_findLevel_43 n) v1 v2 v3 v4 v5 σ) else none else jX12_findLevel_114 v1 v2 v3 v4 σ
set_option maxHeartbeats 4000000 in
theorem t_lX12_findLevel_43 {G : rG} {ad : Nat → Nat} {o : (Unit × rS)}   : ∀ (n : Nat) (v1 : Int32) (v2 : Int32) (v3 : Int32) (v4 : Int32) (v5 : Int32) (σ : rS) (h : rH), Rep G ad σ h → lX12_findLevel_43  n v1 v2 v3 v4 v5 σ = some o → RW G mX12_findLevel (rm 3 0 0) (qV G ad o) xN 0 0 43 [(0, .ref (ad 43)), (1, .int v1), (2, .int v2), (3, .int v3), (4, .int v4), (5, .int v5)] [] h := by
  intro n
  induction n with
  | zero =>
    intro v1 v2 v3 v4 v5 σ h hr hf
    rw [lX12_findLevel_43] at hf
    cases hf
  | succ n ih =>
    intro v1 v2 v3 v4 v5 σ h hr hf
    rw [lX12_findLevel_43] at hf
    refine rw_iload dX12_findLevel_43 5 rfl ?_
    refine rw_aload_n dX12_findLevel_45 0 rfl rfl ?_
    refine sg_43_2 hr dX12_findLevel_46 fl1464 ?_
    refine rw_icmp_ge (tgt := 114) dX12_findLevel_49 (by decide) (fun c8 => ?_) (fun c8 => ?_)
    · rw [if_pos c8] at hf
      refine rw_sub [0, 1, 2, 3, 4] rfl ?_
      exact t_jX12_findLevel_114 (ad := ad) (G := G)  v1 v2 v3 v4 σ _ hr hf
    · rw [if_neg c8] at hf
      refine rw_aload_n dX12_findLevel_52 0 rfl rfl ?_
      refine sg_43_30 hr dX12_findLevel_53 fl1492 ?_
      refine rw_lconst (v := 0) dX12_findLevel_56 (by decide) ?_
      refine rw_lcmp dX12_findLevel_57 ?_
      refine rw_if_ne (tgt := 114) dX12_findLevel_58 (by decide) (fun c9 => ?_) (fun c9 => ?_)
      · rw [if_neg c9] at hf
        refine rw_sub [0, 1, 2, 3, 4] rfl ?_
        exact t_jX12_findLevel_114 (ad := ad) (G := G)  v1 v2 v3 v4 σ _ hr hf
      · rw [if_pos c9] at hf
        refine rw_aload_n dX12_findLevel_61 0 rfl rfl ?_
        refine sg_43_3 hr dX12_findLevel_62 fl1465 ?_
        refine rw_iload dX12_findLevel_65 5 rfl ?_
        obtain ⟨hi10, hf⟩ := grd hf
        refine sl_44 hr dX12_findLevel_67 (inB_in hi10) ?_
        refine rw_iload_n dX12_findLevel_68 3 rfl rfl ?_
        refine rw_icmp_ne (tgt := 108) dX12_findLevel_69 (by decide) (fun c11 => ?_) (fun c11 => ?_)
        · rw [if_neg c11] at hf
          exact t_jX12_findLevel_108 (ad := ad) (G := G) (lX12_findLevel_43 n) ih v1 v2 v3 v4 v5 σ _ hr hf
        · rw [if_pos c11] at hf
          refine rw_aload_n dX12_findLevel_72 0 rfl rfl ?_
          refine sg_43_4 hr dX12_findLevel_73 fl1466 ?_
          refine rw_iload dX12_findLevel_76 5 rfl ?_
          obtain ⟨hi12, hf⟩ := grd hf
          refine sl_45 hr dX12_findLevel_78 (inB_in hi12) ?_
          refine rw_iload dX12_findLevel_79 4 rfl ?_
          refine rw_icmp_ne (tgt := 108) dX12_findLevel_81 (by decide) (fun c13 => ?_) (fun c13 => ?_)
          · rw [if_neg c13] at hf
            exact t_jX12_findLevel_108 (ad := ad) (G := G) (lX12_findLevel_43 n) ih v1 v2 v3 v4 v5 σ _ hr hf
          · rw [if_pos c13] at hf
            refine rw_aload_n dX12_findLevel_84 0 rfl rfl ?_
            refine rw_iload_n dX12_findLevel_85 1 rfl rfl ?_
            refine rw_iload_n dX12_findLevel_86 2 rfl rfl ?_
            refine rw_iload dX12_findLevel_87 5 rfl ?_
            obtain ⟨q14, hq14, hf⟩ := bnd hf
            refine kV_I (ad := ad) (As := [.int v1, .int v2, .int v5]) (st := []) dX12_findLevel_89 calX12_has wm1776 wm1778 wm49 rfl rfl (rc_43 hr) (ci := 12) (by decide) rfl rfl (Nat.le_of_ble_eq_true rfl) ⟨⟨by decide, by decide⟩, by decide, by decide⟩ (cmX12_has hr hq14) (fun h hr => ?_)
            refine rw_if_eq (tgt := 108) dX12_findLevel_92 (by decide) (fun c15 => ?_) (fun c15 => ?_)
            · rw [if_pos c15] at hf
              exact t_jX12_findLevel_108 (ad := ad) (G := G) (lX12_findLevel_43 n) ih v1 v2 v3 v4 v5 q14.2 _ hr hf
            · rw [if_neg c15] at hf
              refine rw_aload_n dX12_findLevel_95 0 rfl rfl ?_
              refine rw_aload_n dX12_findLevel_96 0 rfl rfl ?_
              refine rw_iload_n dX12_findLevel_97 1 rfl rfl ?_
              refine rw_iload_n dX12_findLevel_98 2 rfl rfl ?_
              refine rw_iload dX12_findLevel_99 5 rfl ?_
              obtain ⟨q16, hq16, hf⟩ := bnd hf
              refine kV_J (ad := ad) (As := [.int v1, .int v2, .int v5]) (st := [.ref (ad 43)]) dX12_findLevel_101 calX12_levelAt wm1780 wm1782 wm50 rfl rfl (rc_43 hr) (ci := 12) (by decide) rfl rfl (Nat.le_of_ble_eq_true rfl) ⟨⟨by decide, by decide⟩, by decide, by decide⟩ (cmX12_levelAt hr hq16) (fun h hr => ?_)
              refine rw_lconst (v := 1) dX12_findLevel_104 (by decide) ?_
              obtain ⟨q17, hq17, hf⟩ := bnd hf
              refine kV_V (ad := ad) (As := [.long q16.1, .long 1]) (st := []) dX12_findLevel_105 calX12_tell wm1784 wm1786 wm51 rfl rfl (rc_43 hr) (ci := 12) (by decide) rfl rfl (Nat.le_of_ble_eq_true rfl) ⟨⟨by decide, by decide⟩, by decide, by decide⟩ (cmX12_tell hr hq17) (fun h hr => ?_)
              exact t_jX12_findLevel_108 (ad := ad) (G := G) (lX12_findLevel_43 n) ih v1 v2 v3 v4 v5 q17.2 _ hr hf
def jX12_findLevel_40  (v1 : Int32) (v2 : Int32) (v3 : Int32) (v4 : Int32) (σ : rS) : Option (Unit × rS) := lX12_findLevel_43 1000 v1 v2 v3 v4 0 σ
set_option maxHeartbeats 4000000 in
theorem t_jX12_findLevel_40 {G : rG} {ad : Nat → Nat} {o : (Unit × rS)}   (v1 : Int32) (v2 : Int32) (v3 : Int32) (v4 : Int32) (σ : rS) (h : rH) (hr : Rep G ad σ h) (hf : jX12_findLevel_40  v1 v2 v3 v4 σ = some o) : RW G mX12_findLevel (rm 3 0 0) (qV G ad o) xN 0 0 40 [(0, .ref (ad 43)), (1, .int v1), (2, .int v2), (3, .int v3), (4, .int v4)] [] h := by
  unfold jX12_findLevel_40 at hf
  refine rw_iconst (v := 0) dX12_findLevel_40 (by decide) ?_
  refine rw_istore (lv2 := [(5, .int 0), (0, .ref (ad 43)), (1, .int v1), (2, .int v2), (3, .int v3), (4, .int v4)]) dX12_findLevel_41 (by decide) rfl ?_
  refine rw_sub [1, 2, 3, 4, 5, 0] rfl ?_
  exact t_lX12_findLevel_43 (ad := ad) (G := G)  1000 v1 v2 v3 v4 0 σ _ hr hf
def fX12_findLevel (a0 : Int32) (a1 : Int32) (a2 : Int32) (a3 : Int32) (σ : rS) : Option (Unit × rS) := vS (uL σ 43 29 0) fun σ1 => vS (uL σ1 43 30 0) fun σ2 => if (σ2.1 43 2) = 1 then (fX12_has a0 a1 0 σ2).bind fun q4 => if q4.1 = 0 then jX12_findLevel_40 a0 a1 a2 a3 q4.2 else (fX12_levelAt a0 a1 0 q4.2).bind fun q6 => (fX12_tell q6.1 1 q6.2).bind fun q7 => jX12_findLevel_40 a0 a1 a2 a3 q7.2 else jX12_findLevel_40 a0 a1 a2 a3 σ2
set_option maxHeartbeats 4000000 in
theorem cmX12_findLevel {G : rG} {ad : Nat → Nat} {a0 : Int32} {a1 : Int32} {a2 : Int32} {a3 : Int32} {σ : rS} {h : rH} {o : (Unit × rS)} (hr : Rep G ad σ h) (hf : fX12_findLevel a0 a1 a2 a3 σ = some o) : rMT G mX12_findLevel (rm 3 0 0) [.ref (ad 43), .int a0, .int a1, .int a2, .int a3] h (qV G ad o) xN := by
  unfold fX12_findLevel at hf
  refine rw_met (by decide +kernel) rfl (Nat.le_of_ble_eq_true rfl) ?_
  show RW G _ _ _ _ 0 0 0 [(0, .ref (ad 43)), (1, .int a0), (2, .int a1), (3, .int a2), (4, .int a3)] [] h
  refine rw_aload_n dX12_findLevel_0 0 rfl rfl ?_
  refine rw_lconst (v := 0) dX12_findLevel_1 (by decide) ?_
  refine sp_43_29 hr dX12_findLevel_2 fl1491 (fun h hr => ?_)
  refine nmS hf hr (fun σ1 hr hf => ?_)
  refine rw_aload_n dX12_findLevel_5 0 rfl rfl ?_
  refine rw_lconst (v := 0) dX12_findLevel_6 (by decide) ?_
  refine sp_43_30 hr dX12_findLevel_7 fl1492 (fun h hr => ?_)
  refine nmS hf hr (fun σ2 hr hf => ?_)
  refine rw_aload_n dX12_findLevel_10 0 rfl rfl ?_
  refine sg_43_2 hr dX12_findLevel_11 fl1464 ?_
  refine rw_iconst (v := 1) dX12_findLevel_14 (by decide) ?_
  refine rw_icmp_ne (tgt := 40) dX12_findLevel_15 (by decide) (fun c3 => ?_) (fun c3 => ?_)
  · rw [if_neg c3] at hf
    exact t_jX12_findLevel_40 (ad := ad) (G := G)  a0 a1 a2 a3 σ2 _ hr hf
  · rw [if_pos c3] at hf
    refine rw_aload_n dX12_findLevel_18 0 rfl rfl ?_
    refine rw_iload_n dX12_findLevel_19 1 rfl rfl ?_
    refine rw_iload_n dX12_findLevel_20 2 rfl rfl ?_
    refine rw_iconst (v := 0) dX12_findLevel_21 (by decide) ?_
    obtain ⟨q4, hq4, hf⟩ := bnd hf
    refine kV_I (ad := ad) (As := [.int a0, .int a1, .int 0]) (st := []) dX12_findLevel_22 calX12_has wm1776 wm1778 wm49 rfl rfl (rc_43 hr) (ci := 12) (by decide) rfl rfl (Nat.le_of_ble_eq_true rfl) ⟨⟨by decide, by decide⟩, by decide, by decide⟩ (cmX12_has hr hq4) (fun h hr => ?_)
    refine rw_if_eq (tgt := 40) dX12_findLevel_25 (by decide) (fun c5 => ?_) (fun c5 => ?_)
    · rw [if_pos c5] at hf
      exact t_jX12_findLevel_40 (ad := ad) (G := G)  a0 a1 a2 a3 q4.2 _ hr hf
    · rw [if_neg c5] at hf
      refine rw_aload_n dX12_findLevel_28 0 rfl rfl ?_
      refine rw_aload_n dX12_findLevel_29 0 rfl rfl ?_
      refine rw_iload_n dX12_findLevel_30 1 rfl rfl ?_
      refine rw_iload_n dX12_findLevel_31 2 rfl rfl ?_
      refine rw_iconst (v := 0) dX12_findLevel_32 (by decide) ?_
      obtain ⟨q6, hq6, hf⟩ := bnd hf
      refine kV_J (ad := ad) (As := [.int a0, .int a1, .int 0]) (st := [.ref (ad 43)]) dX12_findLevel_33 calX12_levelAt wm1780 wm1782 wm50 rfl rfl (rc_43 hr) (ci := 12) (by decide) rfl rfl (Nat.le_of_ble_eq_true rfl) ⟨⟨by decide, by decide⟩, by decide, by decide⟩ (cmX12_levelAt hr hq6) (fun h hr => ?_)
      refine rw_lconst (v := 1) dX12_findLevel_36 (by decide) ?_
      obtain ⟨q7, hq7, hf⟩ := bnd hf
      refine kV_V (ad := ad) (As := [.long q6.1, .long 1]) (st := []) dX12_findLevel_37 calX12_tell wm1784 wm1786 wm51 rfl rfl (rc_43 hr) (ci := 12) (by decide) rfl rfl (Nat.le_of_ble_eq_true rfl) ⟨⟨by decide, by decide⟩, by decide, by decide⟩ (cmX12_tell hr hq7) (fun h hr => ?_)
      exact t_jX12_findLevel_40 (ad := ad) (G := G)  a0 a1 a2 a3 q7.2 _ hr hf
