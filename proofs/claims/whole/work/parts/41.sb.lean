def qVq (G : rG) (ad : Nat → Nat) (q : Nat) (o : Unit × rS) : Option Value → rH → Prop := fun v h => v = none ∧ RepQ G ad q o.2 h
section RwSb3
variable {G : rG} {ad : Nat → Nat} {q : Nat} {σ : rS} {mi : rMI} {R : Room} {Q : Option Value → rH → Prop} {X : String → rH → Prop} {cells slots pc : Nat} {lv : List (Nat × Value)} {st : List Value} {h : rH}
theorem kU_Iq {mj : rMI} {R2 : Room} {idx n : Nat} {b : Nat} {As st0 : List Value} {o : Int32 × rS} (hd : decode mi.2.1 pc = .ok (.invokevirtual idx, 3)) (hcal : rCal mj n) (hw1 : Cond.methodLink mi.1.cls idx mj.1 ∈ rTB) (hw2 : Cond.sameMethod mj.1.cls mj.1.cls mj.1.name mj.1.desc ∈ rTB) (hw3 : Cond.selects RJ4 mj.1 mj.1 ∈ rTB) (hw4 : Cond.instanceMethod mj.1 ∈ rTB) (hst : st0 = As.reverse ++ .ref b :: st) (hn : As.length = n) (hc : ∃ fs, h b = .inr (0, fs)) (hsum : (st.map fun v => v.category).sum ≤ 8) (hR : rFit R R2 mj.2.2.1 cells slots) (hM : rMT G mj R2 (.ref b :: As) h (qIq G ad q o) xN) (kk : ∀ h2, RepQ G ad q o.2 h2 → RW G mi R Q X (cells + R2.cells) (slots + R2.slots) (pc + 3) lv (.int o.1 :: st) h2) : RW G mi R Q X cells slots pc lv st0 h := hc.elim fun fs hc => rw_callU hd hcal hw1 hw2 hw3 hw4 hst hn hc hsum hR hM (fun v h2 z => by obtain ⟨rfl, hr⟩ := z; exact kk h2 hr)
theorem kS_Vq {mj : rMI} {R2 : Room} {idx n : Nat} {As st0 : List Value} {o : Unit × rS} (hd : decode mi.2.1 pc = .ok (.invokestatic idx, 3)) (hcal : rCal mj n) (hw1 : Cond.methodLink mi.1.cls idx mj.1 ∈ rTB) (hw2 : Cond.static mj.1 ∈ rTB) (hst : st0 = As.reverse ++ st) (hn : As.length = n) (hsum : (st.map fun v => v.category).sum ≤ 8) (hR : rFit R R2 mj.2.2.1 cells slots) (hM : rMT G mj R2 As h (qVq G ad q o) xN) (kk : ∀ h2, RepQ G ad q o.2 h2 → RW G mi R Q X (cells + R2.cells) (slots + R2.slots) (pc + 3) lv st h2) : RW G mi R Q X cells slots pc lv st0 h := rw_callS hd hcal hw1 hw2 hst hn hsum hR hM (fun _ _ z => z.elim) (fun v h2 z => by obtain ⟨rfl, hr⟩ := z; exact kk h2 hr)
theorem rw_fmt (kk : G.2.2.2.2.2.isRef = true → RW G mi R Q X cells slots pc lv st h) : RW G mi R Q X cells slots pc lv st h := fun p l e s m args below meth c H locs ls C hl hH hS => kk C.2.2.2.2.2.2.2.2.2.2.2.2.2.2.2.1.2.2.2.2.2.2.2.2.2.2 p l e s m args below meth c H locs ls C hl hH hS
end RwSb3
theorem cmJ3_checkIndex {G : rG} {ad : Nat → Nat} {σ : rS} {h : rH} {a0 a1 : Int32} {v : Value} (hv : v.isRef = true) {q : Nat} (hr : RepQ G ad q σ h) (h0 : ¬ a0 < 0) (h1 : a0 < a1) : rMT G mJ3_checkIndex_8e157 (rm 1 0 0) [.int a0, .int a1, v] h (qIq G ad q (a0, σ)) xN := by
  have main : RW G mJ3_checkIndex_8e157 (rm 1 0 0) (qIq G ad q (a0, σ)) xN 0 0 0 [(0, .int a0), (1, .int a1)] [] h := by
    refine rw_iload_n dJ3_checkIndex_8e157_0 0 rfl rfl ?_
    refine rw_if_lt (tgt := 9) dJ3_checkIndex_8e157_1 (by decide) (fun z => absurd z h0) (fun _ => ?_)
    refine rw_iload_n dJ3_checkIndex_8e157_4 0 rfl rfl ?_
    refine rw_iload_n dJ3_checkIndex_8e157_5 1 rfl rfl ?_
    refine rw_icmp_lt (tgt := 16) dJ3_checkIndex_8e157_6 (by decide) (fun _ => ?_) (fun z => absurd h1 z)
    refine rw_iload_n dJ3_checkIndex_8e157_16 0 rfl rfl ?_
    exact rw_ireturn dJ3_checkIndex_8e157_17 rfl ⟨rfl, hr⟩ (by decide) (by decide)
  cases v with
  | null =>
    refine rw_met (by decide +kernel) rfl (Nat.le_of_ble_eq_true rfl) ?_
    show RW G _ _ _ _ 0 0 0 [(0, .int a0), (1, .int a1), (2, .null)] [] h
    exact rw_sub [0, 1] rfl main
  | ref r =>
    refine rw_met (by decide +kernel) rfl (Nat.le_of_ble_eq_true rfl) ?_
    show RW G _ _ _ _ 0 0 0 [(0, .int a0), (1, .int a1), (2, .ref r)] [] h
    exact rw_sub [0, 1] rfl main
  | _ => cases hv
def fJ0_checkIndex_df160 (a0 a1 : Int32) (σ : rS) : Option (Unit × rS) := if ¬ a0 < 0 ∧ a0 < a1 then some ((), σ) else none
theorem cmJ0_checkIndex_df160 {G : rG} {ad : Nat → Nat} {a0 a1 : Int32} {σ : rS} {h : rH} {o : Unit × rS} {q : Nat} (hr : RepQ G ad q σ h) (hf : fJ0_checkIndex_df160 a0 a1 σ = some o) : rMT G mJ0_checkIndex_df160 (rm 2 0 0) [.int a0, .int a1] h (qVq G ad q o) xN := by
  unfold fJ0_checkIndex_df160 at hf
  obtain ⟨⟨h0, h1⟩, hf⟩ := grd hf
  replace hf := Option.some.inj hf
  subst hf
  refine rw_met (by decide +kernel) rfl (Nat.le_of_ble_eq_true rfl) ?_
  show RW G _ _ _ _ 0 0 0 [(0, .int a0), (1, .int a1)] [] h
  refine rw_fmt (fun hv => ?_)
  refine rw_iload_n dJ0_checkIndex_df160_0 0 rfl rfl ?_
  refine rw_iload_n dJ0_checkIndex_df160_1 1 rfl rfl ?_
  refine rw_getstatic (v := G.2.2.2.2.2) dJ0_checkIndex_df160_2 wm796 (fun s hs => hs.2.2.2.2.2.2.2.2.2.1) ?_
  refine kS_Iq (ad := ad) (As := [.int a0, .int a1, G.2.2.2.2.2]) (st := []) dJ0_checkIndex_df160_5 calJ3_checkIndex_8e157 wm798 wm799 rfl rfl (Nat.le_of_ble_eq_true rfl) ⟨⟨by decide, by decide⟩, by decide, by decide⟩ (cmJ3_checkIndex hv hr h0 h1) (fun h hr => ?_)
  refine rw_pop dJ0_checkIndex_df160_8 rfl ?_
  exact rw_return dJ0_checkIndex_df160_9 rfl ⟨rfl, hr⟩ (by decide) (by decide)
def jJ5_isLatin1_aae02_18  (s0 : Int32) (σ : rS) : Option (Int32 × rS) := if s0 = 0 ∨ s0 = 1 then some (s0, σ) else none
set_option maxHeartbeats 4000000 in
theorem t_jJ5_isLatin1_aae02_18 {G : rG} {ad : Nat → Nat} {o : (Int32 × rS)}   (s0 : Int32) (σ : rS) (h : rH) (hr : Rep G ad σ h) (hf : jJ5_isLatin1_aae02_18  s0 σ = some o) : RW G mJ5_isLatin1_aae02 (rm 0 0 0) (qI G ad o) xN 0 0 18 [] [.int s0] h := by
  unfold jJ5_isLatin1_aae02_18 at hf
  obtain ⟨hz3, hf⟩ := grd hf
  replace hf := Option.some.inj hf
  subst hf
  exact rw_zreturn dJ5_isLatin1_aae02_18 rfl (nar_z hz3) ⟨rfl, hr⟩ (by decide) (by decide)
def jJ5_isLatin1_aae02_17   (σ : rS) : Option (Int32 × rS) := jJ5_isLatin1_aae02_18 0 σ
set_option maxHeartbeats 4000000 in
theorem t_jJ5_isLatin1_aae02_17 {G : rG} {ad : Nat → Nat} {o : (Int32 × rS)}    (σ : rS) (h : rH) (hr : Rep G ad σ h) (hf : jJ5_isLatin1_aae02_17   σ = some o) : RW G mJ5_isLatin1_aae02 (rm 0 0 0) (qI G ad o) xN 0 0 17 [] [] h := by
  unfold jJ5_isLatin1_aae02_17 at hf
  refine rw_iconst (v := 0) dJ5_isLatin1_aae02_17 (by decide) ?_
  exact t_jJ5_isLatin1_aae02_18 (ad := ad) (G := G)  0 σ _ hr hf
def fJ5_isLatin1_aae02  (σ : rS) : Option (Int32 × rS) := if ((1 : Int32)) = 0 then jJ5_isLatin1_aae02_17 σ else if (σ.1 40 1) = 0 then jJ5_isLatin1_aae02_18 1 σ else jJ5_isLatin1_aae02_17 σ
set_option maxHeartbeats 4000000 in
theorem cmJ5_isLatin1_aae02 {G : rG} {ad : Nat → Nat}  {σ : rS} {h : rH} {o : (Int32 × rS)} (hr : Rep G ad σ h) (hf : fJ5_isLatin1_aae02  σ = some o) : rMT G mJ5_isLatin1_aae02 (rm 0 0 0) [.ref (ad 40)] h (qI G ad o) xN := by
  unfold fJ5_isLatin1_aae02 at hf
  refine rw_met (by decide +kernel) rfl (Nat.le_of_ble_eq_true rfl) ?_
  show RW G _ _ _ _ 0 0 0 [(0, .ref (ad 40))] [] h
  refine rw_getstatic (v := .int ((1 : Int32))) dJ5_isLatin1_aae02_0 wm418 (fun s hs => hs.1) ?_
  refine rw_if_eq (tgt := 17) dJ5_isLatin1_aae02_3 (by decide) (fun c1 => ?_) (fun c1 => ?_)
  · rw [if_pos c1] at hf
    refine rw_sub [] rfl ?_
    exact t_jJ5_isLatin1_aae02_17 (ad := ad) (G := G)  σ _ hr hf
  · rw [if_neg c1] at hf
    refine rw_aload_n dJ5_isLatin1_aae02_6 0 rfl rfl ?_
    refine sg_40_1 hr dJ5_isLatin1_aae02_7 fl428 ?_
    refine rw_if_ne (tgt := 17) dJ5_isLatin1_aae02_10 (by decide) (fun c2 => ?_) (fun c2 => ?_)
    · rw [if_neg c2] at hf
      refine rw_sub [] rfl ?_
      exact t_jJ5_isLatin1_aae02_17 (ad := ad) (G := G)  σ _ hr hf
    · rw [if_pos c2] at hf
      refine rw_iconst (v := 1) dJ5_isLatin1_aae02_13 (by decide) ?_
      refine rw_goto (tgt := 18) dJ5_isLatin1_aae02_14 (by decide) ?_
      refine rw_sub [] rfl ?_
      exact t_jJ5_isLatin1_aae02_18 (ad := ad) (G := G)  1 σ _ hr hf
def jJ1_canEncode_fc78d_12  (s0 : Int32) (σ : rS) : Option (Int32 × rS) := if s0 = 0 ∨ s0 = 1 then some (s0, σ) else none
set_option maxHeartbeats 4000000 in
theorem t_jJ1_canEncode_fc78d_12 {G : rG} {ad : Nat → Nat} {o : (Int32 × rS)}   (s0 : Int32) (σ : rS) (h : rH) (hr : Rep G ad σ h) (hf : jJ1_canEncode_fc78d_12  s0 σ = some o) : RW G mJ1_canEncode_fc78d (rm 0 0 0) (qI G ad o) xN 0 0 12 [] [.int s0] h := by
  unfold jJ1_canEncode_fc78d_12 at hf
  obtain ⟨hz2, hf⟩ := grd hf
  replace hf := Option.some.inj hf
  subst hf
  exact rw_zreturn dJ1_canEncode_fc78d_12 rfl (nar_z hz2) ⟨rfl, hr⟩ (by decide) (by decide)
def fJ1_canEncode_fc78d (a0 : Int32) (σ : rS) : Option (Int32 × rS) := if 255 < a0 then jJ1_canEncode_fc78d_12 0 σ else jJ1_canEncode_fc78d_12 1 σ
set_option maxHeartbeats 4000000 in
theorem cmJ1_canEncode_fc78d {G : rG} {ad : Nat → Nat} {a0 : Int32} {σ : rS} {h : rH} {o : (Int32 × rS)} (hr : Rep G ad σ h) (hf : fJ1_canEncode_fc78d a0 σ = some o) : rMT G mJ1_canEncode_fc78d (rm 0 0 0) [.int a0] h (qI G ad o) xN := by
  unfold fJ1_canEncode_fc78d at hf
  refine rw_met (by decide +kernel) rfl (Nat.le_of_ble_eq_true rfl) ?_
  show RW G _ _ _ _ 0 0 0 [(0, .int a0)] [] h
  refine rw_iload_n dJ1_canEncode_fc78d_0 0 rfl rfl ?_
  refine rw_sipush (v := 255) dJ1_canEncode_fc78d_1 (by decide) ?_
  refine rw_icmp_gt (tgt := 11) dJ1_canEncode_fc78d_4 (by decide) (fun c1 => ?_) (fun c1 => ?_)
  · rw [if_pos c1] at hf
    refine rw_iconst (v := 0) dJ1_canEncode_fc78d_11 (by decide) ?_
    refine rw_sub [] rfl ?_
    exact t_jJ1_canEncode_fc78d_12 (ad := ad) (G := G)  0 σ _ hr hf
  · rw [if_neg c1] at hf
    refine rw_iconst (v := 1) dJ1_canEncode_fc78d_7 (by decide) ?_
    refine rw_goto (tgt := 12) dJ1_canEncode_fc78d_8 (by decide) ?_
    refine rw_sub [] rfl ?_
    exact t_jJ1_canEncode_fc78d_12 (ad := ad) (G := G)  1 σ _ hr hf
def jJ8_newLength_cabcc_21  (v0 : Int32) (v1 : Int32) (σ : rS) : Option (Int32 × rS) := none
set_option maxHeartbeats 4000000 in
theorem t_jJ8_newLength_cabcc_21 {G : rG} {ad : Nat → Nat} {q : Nat} {o : (Int32 × rS)}   (v0 : Int32) (v1 : Int32) (σ : rS) (h : rH) (hr : RepQ G ad q σ h) (hf : jJ8_newLength_cabcc_21  v0 v1 σ = some o) : RW G mJ8_newLength_cabcc (rm 1 0 0) (qIq G ad q o) xN 0 0 21 [(0, .int v0), (1, .int v1)] [] h := by
  unfold jJ8_newLength_cabcc_21 at hf
  refine rw_iload_n dJ8_newLength_cabcc_21 0 rfl rfl ?_
  refine rw_iload_n dJ8_newLength_cabcc_22 1 rfl rfl ?_
  cases hf
def fJ8_newLength_cabcc (a0 : Int32) (a1 : Int32) (a2 : Int32) (σ : rS) : Option (Int32 × rS) := vI (a0 + (if a1 < a2 then a2 else a1)) fun x1 => if x1 ≤ 0 then jJ8_newLength_cabcc_21 a0 a1 σ else if 2147483639 < x1 then jJ8_newLength_cabcc_21 a0 a1 σ else some (x1, σ)
set_option maxHeartbeats 4000000 in
theorem cmJ8_newLength_cabcc {G : rG} {ad : Nat → Nat} {a0 : Int32} {a1 : Int32} {a2 : Int32} {σ : rS} {h : rH} {q : Nat} {o : (Int32 × rS)} (hr : RepQ G ad q σ h) (hf : fJ8_newLength_cabcc a0 a1 a2 σ = some o) : rMT G mJ8_newLength_cabcc (rm 1 0 0) [.int a0, .int a1, .int a2] h (qIq G ad q o) xN := by
  unfold fJ8_newLength_cabcc at hf
  refine rw_met (by decide +kernel) rfl (Nat.le_of_ble_eq_true rfl) ?_
  show RW G _ _ _ _ 0 0 0 [(0, .int a0), (1, .int a1), (2, .int a2)] [] h
  refine rw_iload_n dJ8_newLength_cabcc_0 0 rfl rfl ?_
  refine rw_iload_n dJ8_newLength_cabcc_1 1 rfl rfl ?_
  refine rw_iload_n dJ8_newLength_cabcc_2 2 rfl rfl ?_
  refine rw_mmax dJ8_newLength_cabcc_3 wm1207 (by decide) (Nat.le_of_ble_eq_true rfl) (by decide) (by decide) ?_
  refine rw_iadd dJ8_newLength_cabcc_6 ?_
  refine nmI hf (fun x1 hf => ?_)
  refine rw_istore_n (lv2 := [(3, .int x1), (0, .int a0), (1, .int a1), (2, .int a2)]) dJ8_newLength_cabcc_7 rfl (by decide) rfl ?_
  refine rw_iconst (v := 0) dJ8_newLength_cabcc_8 (by decide) ?_
  refine rw_iload_n dJ8_newLength_cabcc_9 0 rfl rfl ?_
  refine rw_icmp_ge (tgt := 21) dJ8_newLength_cabcc_10 (by decide) (fun c2 => ?_) (fun c2 => ?_)
  · rw [if_pos c2] at hf
    refine rw_sub [1, 2] rfl ?_
    exact t_jJ8_newLength_cabcc_21 (ad := ad) (G := G)  a0 a1 σ _ hr hf
  · rw [if_neg c2] at hf
    refine rw_iload_n dJ8_newLength_cabcc_13 0 rfl rfl ?_
    refine rw_ldc (v := 2147483639) dJ8_newLength_cabcc_14 wm1208 ?_
    refine rw_icmp_gt (tgt := 21) dJ8_newLength_cabcc_16 (by decide) (fun c3 => ?_) (fun c3 => ?_)
    · rw [if_pos c3] at hf
      refine rw_sub [1, 2] rfl ?_
      exact t_jJ8_newLength_cabcc_21 (ad := ad) (G := G)  a0 a1 σ _ hr hf
    · rw [if_neg c3] at hf
      refine rw_iload_n dJ8_newLength_cabcc_19 0 rfl rfl ?_
      replace hf := Option.some.inj hf
      subst hf
      exact rw_ireturn dJ8_newLength_cabcc_20 rfl ⟨rfl, hr⟩ (by decide) (by decide)
def fJ5_newCapacity_0f7a4 (a0 : Int32) (σ : rS) : Option (Int32 × rS) := vI (Int32.ofNat σ.2.2.2.2.1) fun x1 => vI (a0 <<< ((σ.1 40 1) &&& 31)) fun x2 => vI (x2 - x1) fun x3 => (fJ8_newLength_cabcc x1 x3 (x1 + (2 <<< ((σ.1 40 1) &&& 31))) σ).bind fun q4 => vI q4.1 fun x5 => if x5 = 2147483647 then none else some ((x5 >>> ((q4.2.1 40 1) &&& 31)), q4.2)
set_option maxHeartbeats 4000000 in
theorem cmJ5_newCapacity_0f7a4 {G : rG} {ad : Nat → Nat} {a0 : Int32} {σ : rS} {h : rH} {q : Nat} {o : (Int32 × rS)} (hr : RepQ G ad q σ h) (hf : fJ5_newCapacity_0f7a4 a0 σ = some o) : rMT G mJ5_newCapacity_0f7a4 (rm 2 0 0) [.ref (ad 40), .int a0] h (qIq G ad q o) xN := by
  unfold fJ5_newCapacity_0f7a4 at hf
  refine rw_met (by decide +kernel) rfl (Nat.le_of_ble_eq_true rfl) ?_
  show RW G _ _ _ _ 0 0 0 [(0, .ref (ad 40)), (1, .int a0)] [] h
  refine rw_aload_n dJ5_newCapacity_0f7a4_0 0 rfl rfl ?_
  refine sgq_40_0 hr dJ5_newCapacity_0f7a4_1 fl427 ?_
  refine alenq hr dJ5_newCapacity_0f7a4_4 ?_
  refine nmI hf (fun x1 hf => ?_)
  refine rw_istore_n (lv2 := [(2, .int x1), (0, .ref (ad 40)), (1, .int a0)]) dJ5_newCapacity_0f7a4_5 rfl (by decide) rfl ?_
  refine rw_iload_n dJ5_newCapacity_0f7a4_6 2 rfl rfl ?_
  refine rw_aload_n dJ5_newCapacity_0f7a4_7 1 rfl rfl ?_
  refine sgq_40_1 hr dJ5_newCapacity_0f7a4_8 fl428 ?_
  refine rw_ishl dJ5_newCapacity_0f7a4_11 ?_
  refine nmI hf (fun x2 hf => ?_)
  refine rw_istore_n (lv2 := [(3, .int x2), (2, .int x1), (0, .ref (ad 40)), (1, .int a0)]) dJ5_newCapacity_0f7a4_12 rfl (by decide) rfl ?_
  refine rw_iload_n dJ5_newCapacity_0f7a4_13 0 rfl rfl ?_
  refine rw_iload_n dJ5_newCapacity_0f7a4_14 1 rfl rfl ?_
  refine rw_isub dJ5_newCapacity_0f7a4_15 ?_
  refine nmI hf (fun x3 hf => ?_)
  refine rw_istore (lv2 := [(4, .int x3), (3, .int x2), (2, .int x1), (0, .ref (ad 40)), (1, .int a0)]) dJ5_newCapacity_0f7a4_16 (by decide) rfl ?_
  refine rw_iload_n dJ5_newCapacity_0f7a4_18 2 rfl rfl ?_
  refine rw_iload dJ5_newCapacity_0f7a4_19 0 rfl ?_
  refine rw_iload_n dJ5_newCapacity_0f7a4_21 2 rfl rfl ?_
  refine rw_iconst (v := 2) dJ5_newCapacity_0f7a4_22 (by decide) ?_
  refine rw_aload_n dJ5_newCapacity_0f7a4_23 3 rfl rfl ?_
  refine sgq_40_1 hr dJ5_newCapacity_0f7a4_24 fl428 ?_
  refine rw_ishl dJ5_newCapacity_0f7a4_27 ?_
  refine rw_iadd dJ5_newCapacity_0f7a4_28 ?_
  obtain ⟨q4, hq4, hf⟩ := bnd hf
  refine kS_Iq (ad := ad) (As := [.int x1, .int x3, .int (x1 + (2 <<< ((σ.1 40 1) &&& 31)))]) (st := []) dJ5_newCapacity_0f7a4_29 calJ8_newLength_cabcc wm1204 wm1205 rfl rfl (Nat.le_of_ble_eq_true rfl) ⟨⟨by decide, by decide⟩, by decide, by decide⟩ (cmJ8_newLength_cabcc hr hq4) (fun h hr => ?_)
  refine nmI hf (fun x5 hf => ?_)
  refine rw_istore (lv2 := [(5, .int x5), (4, .int x3), (3, .int x2), (2, .int x1), (0, .ref (ad 40)), (1, .int a0)]) dJ5_newCapacity_0f7a4_32 (by decide) rfl ?_
  refine rw_iload dJ5_newCapacity_0f7a4_34 0 rfl ?_
  refine rw_ldc (v := 2147483647) dJ5_newCapacity_0f7a4_36 wm1212 ?_
  refine rw_icmp_ne (tgt := 51) dJ5_newCapacity_0f7a4_38 (by decide) (fun c6 => ?_) (fun c6 => ?_)
  · rw [if_neg c6] at hf
    refine rw_iload dJ5_newCapacity_0f7a4_51 0 rfl ?_
    refine rw_aload_n dJ5_newCapacity_0f7a4_53 4 rfl rfl ?_
    refine sgq_40_1 hr dJ5_newCapacity_0f7a4_54 fl428 ?_
    refine rw_ishr dJ5_newCapacity_0f7a4_57 ?_
    replace hf := Option.some.inj hf
    subst hf
    exact rw_ireturn dJ5_newCapacity_0f7a4_58 rfl ⟨rfl, hr⟩ (by decide) (by decide)
  · rw [if_pos c6] at hf
    cases hf
def jJ5_ensureCapacityInternal_d00df_38   (σ : rS) : Option (Unit × rS) := some ((), σ)
set_option maxHeartbeats 4000000 in
theorem t_jJ5_ensureCapacityInternal_d00df_38 {G : rG} {ad : Nat → Nat} {q : Nat} {o : (Unit × rS)}    (σ : rS) (h : rH) (hr : RepQ G ad q σ h) (hf : jJ5_ensureCapacityInternal_d00df_38   σ = some o) : RW G mJ5_ensureCapacityInternal_d00df (rm 3 1 142) (qV G ad o) xN 1 142 38 [] [] h := by
  unfold jJ5_ensureCapacityInternal_d00df_38 at hf
  replace hf := Option.some.inj hf
  subst hf
  exact rw_return dJ5_ensureCapacityInternal_d00df_38 rfl ⟨rfl, ⟨_, hr⟩⟩ (by decide) (by decide)
def fJ5_ensureCapacityInternal_d00df (a0 : Int32) (σ : rS) : Option (Unit × rS) := vI ((Int32.ofNat σ.2.2.2.2.1) >>> ((σ.1 40 1) &&& 31)) fun x1 => if (a0 - x1) ≤ 0 then jJ5_ensureCapacityInternal_d00df_38 σ else (fJ5_newCapacity_0f7a4 a0 σ).bind fun q3 => if growB (q3.1 <<< ((q3.2.1 40 1) &&& 31)) q3.2 then vS (uB q3.2 (q3.1 <<< ((q3.2.1 40 1) &&& 31)).toNatClampNeg (va_cpy q3.2.2.2.2.2.2 (fun _ => 0) 0 0 q3.2.2.2.2.2.1)) fun σ5 => jJ5_ensureCapacityInternal_d00df_38 σ5 else none
set_option maxHeartbeats 4000000 in
theorem cmJ5_ensureCapacityInternal_d00df {G : rG} {ad : Nat → Nat} {a0 : Int32} {σ : rS} {h : rH} {o : (Unit × rS)} (hr : Rep G ad σ h) (hf : fJ5_ensureCapacityInternal_d00df a0 σ = some o) : rMT G mJ5_ensureCapacityInternal_d00df (rm 3 1 142) [.ref (ad 40), .int a0] h (qV G ad o) xN := by
  unfold fJ5_ensureCapacityInternal_d00df at hf
  refine rw_met (by decide +kernel) rfl (Nat.le_of_ble_eq_true rfl) ?_
  obtain ⟨q, hr⟩ := hr
  show RW G _ _ _ _ 0 0 0 [(0, .ref (ad 40)), (1, .int a0)] [] h
  refine rw_aload_n dJ5_ensureCapacityInternal_d00df_0 0 rfl rfl ?_
  refine sgq_40_0 hr dJ5_ensureCapacityInternal_d00df_1 fl427 ?_
  refine alenq hr dJ5_ensureCapacityInternal_d00df_4 ?_
  refine rw_aload_n dJ5_ensureCapacityInternal_d00df_5 0 rfl rfl ?_
  refine sgq_40_1 hr dJ5_ensureCapacityInternal_d00df_6 fl428 ?_
  refine rw_ishr dJ5_ensureCapacityInternal_d00df_9 ?_
  refine nmI hf (fun x1 hf => ?_)
  refine rw_istore_n (lv2 := [(2, .int x1), (0, .ref (ad 40)), (1, .int a0)]) dJ5_ensureCapacityInternal_d00df_10 rfl (by decide) rfl ?_
  refine rw_iload_n dJ5_ensureCapacityInternal_d00df_11 2 rfl rfl ?_
  refine rw_iload_n dJ5_ensureCapacityInternal_d00df_12 0 rfl rfl ?_
  refine rw_isub dJ5_ensureCapacityInternal_d00df_13 ?_
  refine rw_if_le (tgt := 38) dJ5_ensureCapacityInternal_d00df_14 (by decide) (fun c2 => ?_) (fun c2 => ?_)
  · rw [if_pos c2] at hf
    refine rw_sub [] rfl ?_
    refine rw_widen (c2 := 1) (s2 := 142) (by decide) (by decide) ?_
    exact t_jJ5_ensureCapacityInternal_d00df_38 (ad := ad) (G := G)  σ _ hr hf
  · rw [if_neg c2] at hf
    refine rw_aload_n dJ5_ensureCapacityInternal_d00df_17 1 rfl rfl ?_
    refine rw_aload_n dJ5_ensureCapacityInternal_d00df_18 1 rfl rfl ?_
    refine sgq_40_0 hr dJ5_ensureCapacityInternal_d00df_19 fl427 ?_
    refine rw_aload_n dJ5_ensureCapacityInternal_d00df_22 1 rfl rfl ?_
    refine rw_iload_n dJ5_ensureCapacityInternal_d00df_23 2 rfl rfl ?_
    obtain ⟨q3, hq3, hf⟩ := bnd hf
    refine kU_Iq (ad := ad) (As := [.int a0]) (st := [.ref q, .ref (ad 40)]) dJ5_ensureCapacityInternal_d00df_24 calJ5_newCapacity_0f7a4 wm1200 wm1867 wx1 wm1202 rfl rfl (rc_40 ⟨_, hr⟩) (Nat.le_of_ble_eq_true rfl) ⟨⟨by decide, by decide⟩, by decide, by decide⟩ (cmJ5_newCapacity_0f7a4 hr hq3) (fun h hr => ?_)
    refine rw_aload_n dJ5_ensureCapacityInternal_d00df_27 1 rfl rfl ?_
    refine sgq_40_1 hr dJ5_ensureCapacityInternal_d00df_28 fl428 ?_
    refine rw_ishl dJ5_ensureCapacityInternal_d00df_31 ?_
    obtain ⟨hg4, hf⟩ := grd hf
    refine kCopy (st := []) hr dJ5_ensureCapacityInternal_d00df_32 dJ5_ensureCapacityInternal_d00df_35 wm1213 fl427 hg4 (Nat.le_of_ble_eq_true rfl) ⟨⟨by decide, by decide⟩, by decide, by decide⟩ (fun q h hr => ?_)
    refine nmSq hf hr (fun σ5 hr hf => ?_)
    refine rw_sub [] rfl ?_
    exact t_jJ5_ensureCapacityInternal_d00df_38 (ad := ad) (G := G)  σ5 _ hr hf
def lJ6_stringSize_0f7a4_16  : Nat → Int32 → Int32 → Int32 → Int32 → rS → Option (Int32 × rS)
  | 0, _, _, _, _, _ => none
  | n + 1, v0, v1, v2, v3, σ => if 10 ≤ v3 then some ((10 + v1), σ) else if v0 ≤ v2 then vI (10 * v2) fun x5 => vI (v3 + 1) fun x6 => (lJ6_stringSize_0f7a4_16 n) v0 v1 x5 x6 σ else some ((v3 + v1), σ)
set_option maxHeartbeats 4000000 in
theorem t_lJ6_stringSize_0f7a4_16 {G : rG} {ad : Nat → Nat} {o : (Int32 × rS)}   : ∀ (n : Nat) (v0 : Int32) (v1 : Int32) (v2 : Int32) (v3 : Int32) (σ : rS) (h : rH), Rep G ad σ h → lJ6_stringSize_0f7a4_16  n v0 v1 v2 v3 σ = some o → RW G mJ6_stringSize_0f7a4 (rm 0 0 0) (qI G ad o) xN 0 0 16 [(0, .int v0), (1, .int v1), (2, .int v2), (3, .int v3)] [] h := by
  intro n
  induction n with
  | zero =>
    intro v0 v1 v2 v3 σ h hr hf
    rw [lJ6_stringSize_0f7a4_16] at hf
    cases hf
  | succ n ih =>
    intro v0 v1 v2 v3 σ h hr hf
    rw [lJ6_stringSize_0f7a4_16] at hf
    refine rw_iload_n dJ6_stringSize_0f7a4_16 3 rfl rfl ?_
    refine rw_bipush (v := 10) dJ6_stringSize_0f7a4_17 (by decide) ?_
    refine rw_icmp_ge (tgt := 42) dJ6_stringSize_0f7a4_19 (by decide) (fun c3 => ?_) (fun c3 => ?_)
    · rw [if_pos c3] at hf
      refine rw_bipush (v := 10) dJ6_stringSize_0f7a4_42 (by decide) ?_
      refine rw_iload_n dJ6_stringSize_0f7a4_44 1 rfl rfl ?_
      refine rw_iadd dJ6_stringSize_0f7a4_45 ?_
      replace hf := Option.some.inj hf
      subst hf
      exact rw_ireturn dJ6_stringSize_0f7a4_46 rfl ⟨rfl, hr⟩ (by decide) (by decide)
    · rw [if_neg c3] at hf
      refine rw_iload_n dJ6_stringSize_0f7a4_22 0 rfl rfl ?_
      refine rw_iload_n dJ6_stringSize_0f7a4_23 2 rfl rfl ?_
      refine rw_icmp_le (tgt := 31) dJ6_stringSize_0f7a4_24 (by decide) (fun c4 => ?_) (fun c4 => ?_)
      · rw [if_pos c4] at hf
        refine rw_bipush (v := 10) dJ6_stringSize_0f7a4_31 (by decide) ?_
        refine rw_iload_n dJ6_stringSize_0f7a4_33 2 rfl rfl ?_
        refine rw_imul dJ6_stringSize_0f7a4_34 ?_
        refine nmI hf (fun x5 hf => ?_)
        refine rw_istore_n (lv2 := [(2, .int x5), (0, .int v0), (1, .int v1), (3, .int v3)]) dJ6_stringSize_0f7a4_35 rfl (by decide) rfl ?_
        refine rw_iinc (v := v3 + 1) (lv2 := [(3, .int (v3 + 1)), (2, .int x5), (0, .int v0), (1, .int v1)]) dJ6_stringSize_0f7a4_36 3 rfl rfl (by decide) rfl ?_
        refine nmL hf (fun x6 hf => ?_)
        refine rw_goto (tgt := 16) dJ6_stringSize_0f7a4_39 (by decide) ?_
        refine rw_sub [2, 3, 1, 0] rfl ?_
        exact ih v0 v1 x5 x6 σ _ hr hf
      · rw [if_neg c4] at hf
        refine rw_iload_n dJ6_stringSize_0f7a4_27 3 rfl rfl ?_
        refine rw_iload_n dJ6_stringSize_0f7a4_28 1 rfl rfl ?_
        refine rw_iadd dJ6_stringSize_0f7a4_29 ?_
        replace hf := Option.some.inj hf
        subst hf
        exact rw_ireturn dJ6_stringSize_0f7a4_30 rfl ⟨rfl, hr⟩ (by decide) (by decide)
def jJ6_stringSize_0f7a4_11  (v0 : Int32) (v1 : Int32) (σ : rS) : Option (Int32 × rS) := lJ6_stringSize_0f7a4_16 1000 v0 v1 ((-10)) 1 σ
set_option maxHeartbeats 4000000 in
theorem t_jJ6_stringSize_0f7a4_11 {G : rG} {ad : Nat → Nat} {o : (Int32 × rS)}   (v0 : Int32) (v1 : Int32) (σ : rS) (h : rH) (hr : Rep G ad σ h) (hf : jJ6_stringSize_0f7a4_11  v0 v1 σ = some o) : RW G mJ6_stringSize_0f7a4 (rm 0 0 0) (qI G ad o) xN 0 0 11 [(0, .int v0), (1, .int v1)] [] h := by
  unfold jJ6_stringSize_0f7a4_11 at hf
  refine rw_bipush (v := (-10)) dJ6_stringSize_0f7a4_11 (by decide) ?_
  refine rw_istore_n (lv2 := [(2, .int ((-10))), (0, .int v0), (1, .int v1)]) dJ6_stringSize_0f7a4_13 rfl (by decide) rfl ?_
  refine rw_iconst (v := 1) dJ6_stringSize_0f7a4_14 (by decide) ?_
  refine rw_istore_n (lv2 := [(3, .int 1), (2, .int ((-10))), (0, .int v0), (1, .int v1)]) dJ6_stringSize_0f7a4_15 rfl (by decide) rfl ?_
  refine rw_sub [2, 3, 1, 0] rfl ?_
  exact t_lJ6_stringSize_0f7a4_16 (ad := ad) (G := G)  1000 v0 v1 ((-10)) 1 σ _ hr hf
def fJ6_stringSize_0f7a4 (a0 : Int32) (σ : rS) : Option (Int32 × rS) := if a0 < 0 then jJ6_stringSize_0f7a4_11 a0 1 σ else vI (-a0) fun x2 => jJ6_stringSize_0f7a4_11 x2 0 σ
set_option maxHeartbeats 4000000 in
theorem cmJ6_stringSize_0f7a4 {G : rG} {ad : Nat → Nat} {a0 : Int32} {σ : rS} {h : rH} {o : (Int32 × rS)} (hr : Rep G ad σ h) (hf : fJ6_stringSize_0f7a4 a0 σ = some o) : rMT G mJ6_stringSize_0f7a4 (rm 0 0 0) [.int a0] h (qI G ad o) xN := by
  unfold fJ6_stringSize_0f7a4 at hf
  refine rw_met (by decide +kernel) rfl (Nat.le_of_ble_eq_true rfl) ?_
  show RW G _ _ _ _ 0 0 0 [(0, .int a0)] [] h
  refine rw_iconst (v := 1) dJ6_stringSize_0f7a4_0 (by decide) ?_
  refine rw_istore_n (lv2 := [(1, .int 1), (0, .int a0)]) dJ6_stringSize_0f7a4_1 rfl (by decide) rfl ?_
  refine rw_iload_n dJ6_stringSize_0f7a4_2 1 rfl rfl ?_
  refine rw_if_lt (tgt := 11) dJ6_stringSize_0f7a4_3 (by decide) (fun c1 => ?_) (fun c1 => ?_)
  · rw [if_pos c1] at hf
    refine rw_sub [1, 0] rfl ?_
    exact t_jJ6_stringSize_0f7a4_11 (ad := ad) (G := G)  a0 1 σ _ hr hf
  · rw [if_neg c1] at hf
    refine rw_iconst (v := 0) dJ6_stringSize_0f7a4_6 (by decide) ?_
    refine rw_istore_n (lv2 := [(1, .int 0), (0, .int a0)]) dJ6_stringSize_0f7a4_7 rfl (by decide) rfl ?_
    refine rw_iload_n dJ6_stringSize_0f7a4_8 1 rfl rfl ?_
    refine rw_ineg dJ6_stringSize_0f7a4_9 ?_
    refine nmI hf (fun x2 hf => ?_)
    refine rw_istore_n (lv2 := [(0, .int x2), (1, .int 0)]) dJ6_stringSize_0f7a4_10 rfl (by decide) rfl ?_
    exact t_jJ6_stringSize_0f7a4_11 (ad := ad) (G := G)  x2 0 σ _ hr hf
def jJ6_getChars_ba4f3_118  (v5 : Int32) (σ : rS) : Option (Int32 × rS) := some (v5, σ)
set_option maxHeartbeats 4000000 in
theorem t_jJ6_getChars_ba4f3_118 {G : rG} {ad : Nat → Nat} {q : Nat} {o : (Int32 × rS)}   (v5 : Int32) (σ : rS) (h : rH) (hr : RepQ G ad q σ h) (hf : jJ6_getChars_ba4f3_118  v5 σ = some o) : RW G mJ6_getChars_ba4f3 (rm 0 0 0) (qIq G ad q o) xN 0 0 118 [(5, .int v5)] [] h := by
  unfold jJ6_getChars_ba4f3_118 at hf
  refine rw_iload dJ6_getChars_ba4f3_118 0 rfl ?_
  replace hf := Option.some.inj hf
  subst hf
  exact rw_ireturn dJ6_getChars_ba4f3_120 rfl ⟨rfl, hr⟩ (by decide) (by decide)
def jJ6_getChars_ba4f3_104  (v5 : Int32) (v6 : Int32) (σ : rS) : Option (Int32 × rS) := if v6 = 0 then jJ6_getChars_ba4f3_118 v5 σ else vI (v5 + (-1)) fun x26 => if inB x26 σ.2.2.2.2.1 then vS (uB σ σ.2.2.2.2.1 (upd σ.2.2.2.2.2 x26.toNatClampNeg (vp_nar .byte 45))) fun σ28 => jJ6_getChars_ba4f3_118 x26 σ28 else none
set_option maxHeartbeats 4000000 in
theorem t_jJ6_getChars_ba4f3_104 {G : rG} {ad : Nat → Nat} {q : Nat} {o : (Int32 × rS)}   (v5 : Int32) (v6 : Int32) (σ : rS) (h : rH) (hr : RepQ G ad q σ h) (hf : jJ6_getChars_ba4f3_104  v5 v6 σ = some o) : RW G mJ6_getChars_ba4f3 (rm 0 0 0) (qIq G ad q o) xN 0 0 104 [(2, .ref q), (5, .int v5), (6, .int v6)] [] h := by
  unfold jJ6_getChars_ba4f3_104 at hf
  refine rw_iload dJ6_getChars_ba4f3_104 2 rfl ?_
  refine rw_if_eq (tgt := 118) dJ6_getChars_ba4f3_106 (by decide) (fun c25 => ?_) (fun c25 => ?_)
  · rw [if_pos c25] at hf
    refine rw_sub [1] rfl ?_
    exact t_jJ6_getChars_ba4f3_118 (ad := ad) (G := G)  v5 σ _ hr hf
  · rw [if_neg c25] at hf
    refine rw_aload_n dJ6_getChars_ba4f3_109 0 rfl rfl ?_
    refine rw_iinc (v := v5 + (-1)) (lv2 := [(5, .int (v5 + (-1))), (2, .ref q), (6, .int v6)]) dJ6_getChars_ba4f3_110 1 rfl rfl (by decide) rfl ?_
    refine nmL hf (fun x26 hf => ?_)
    refine rw_iload dJ6_getChars_ba4f3_113 0 rfl ?_
    refine rw_bipush (v := 45) dJ6_getChars_ba4f3_115 (by decide) ?_
    obtain ⟨hi27, hf⟩ := grd hf
    refine ssq hr dJ6_getChars_ba4f3_117 (inB_in hi27) (fun h hr => ?_)
    refine nmSq hf hr (fun σ28 hr hf => ?_)
    refine rw_sub [0] rfl ?_
    exact t_jJ6_getChars_ba4f3_118 (ad := ad) (G := G)  x26 σ28 _ hr hf
def lJ6_getChars_ba4f3_22  : Nat → Int32 → Int32 → Int32 → rS → Option (Int32 × rS)
  | 0, _, _, _, _ => none
  | n + 1, v0, v5, v6, σ => if ((-100)) < v0 then vI (v5 + (-1)) fun x5 => if inB (-v0) 100 then if inB x5 σ.2.2.2.2.1 then vS (uB σ σ.2.2.2.2.1 (upd σ.2.2.2.2.2 x5.toNatClampNeg (vp_nar .byte (nI (48 + (-v0).toNatClampNeg % 10))))) fun σ8 => (if ((-9)) ≤ v0 then jJ6_getChars_ba4f3_104 x5 v6 σ8 else vI (x5 + (-1)) fun x10 => if inB (-v0) 100 then if inB x10 σ8.2.2.2.2.1 then vS (uB σ8 σ8.2.2.2.2.1 (upd σ8.2.2.2.2.2 x10.toNatClampNeg (vp_nar .byte (nI (48 + (-v0).toNatClampNeg / 10))))) fun σ13 => jJ6_getChars_ba4f3_104 x10 v6 σ13 else none else none) else none else none else vI (v0 / 100) fun x15 => vI ((x15 * 100) - v0) fun x16 => vI (v5 + (-1)) fun x17 => if inB x16 100 then if inB x17 σ.2.2.2.2.1 then vS (uB σ σ.2.2.2.2.1 (upd σ.2.2.2.2.2 x17.toNatClampNeg (vp_nar .byte (nI (48 + x16.toNatClampNeg % 10))))) fun σ20 => vI (x17 + (-1)) fun x21 => if inB x16 100 then if inB x21 σ20.2.2.2.2.1 then vS (uB σ20 σ20.2.2.2.2.1 (upd σ20.2.2.2.2.2 x21.toNatClampNeg (vp_nar .byte (nI (48 + x16.toNatClampNeg / 10))))) fun σ24 => (lJ6_getChars_ba4f3_22 n) x15 x21 v6 σ24 else none else none else none else none
set_option maxHeartbeats 4000000 in
theorem t_lJ6_getChars_ba4f3_22 {G : rG} {ad : Nat → Nat} {q : Nat} {o : (Int32 × rS)}   : ∀ (n : Nat) (v0 : Int32) (v5 : Int32) (v6 : Int32) (σ : rS) (h : rH), RepQ G ad q σ h → lJ6_getChars_ba4f3_22  n v0 v5 v6 σ = some o → RW G mJ6_getChars_ba4f3 (rm 0 0 0) (qIq G ad q o) xN 0 0 22 [(0, .int v0), (2, .ref q), (5, .int v5), (6, .int v6)] [] h := by
  intro n
  induction n with
  | zero =>
    intro v0 v5 v6 σ h hr hf
    rw [lJ6_getChars_ba4f3_22] at hf
    cases hf
  | succ n ih =>
    intro v0 v5 v6 σ h hr hf
    rw [lJ6_getChars_ba4f3_22] at hf
    refine rw_iload_n dJ6_getChars_ba4f3_22 0 rfl rfl ?_
    refine rw_bipush (v := (-100)) dJ6_getChars_ba4f3_23 (by decide) ?_
    refine rw_icmp_gt (tgt := 72) dJ6_getChars_ba4f3_25 (by decide) (fun c4 => ?_) (fun c4 => ?_)
    · rw [if_pos c4] at hf
      refine rw_aload_n dJ6_getChars_ba4f3_72 1 rfl rfl ?_
      refine rw_iinc (v := v5 + (-1)) (lv2 := [(5, .int (v5 + (-1))), (0, .int v0), (2, .ref q), (6, .int v6)]) dJ6_getChars_ba4f3_73 2 rfl rfl (by decide) rfl ?_
      refine nmL hf (fun x5 hf => ?_)
      refine rw_iload dJ6_getChars_ba4f3_76 0 rfl ?_
      refine rw_getstatic (v := .ref G.2.2.2.2.1.2) dJ6_getChars_ba4f3_78 wm1303 (fun s hs => hs.2.2.2.2.2.2.2.1) ?_
      refine rw_iload_n dJ6_getChars_ba4f3_81 1 rfl rfl ?_
      refine rw_ineg dJ6_getChars_ba4f3_82 ?_
      obtain ⟨hi6, hf⟩ := grd hf
      refine rw_dO dJ6_getChars_ba4f3_83 (inB_in hi6) ?_
      obtain ⟨hi7, hf⟩ := grd hf
      refine ssq hr dJ6_getChars_ba4f3_84 (inB_in hi7) (fun h hr => ?_)
      refine nmSq hf hr (fun σ8 hr hf => ?_)
      refine rw_iload_n dJ6_getChars_ba4f3_85 1 rfl rfl ?_
      refine rw_bipush (v := (-9)) dJ6_getChars_ba4f3_86 (by decide) ?_
      refine rw_icmp_ge (tgt := 104) dJ6_getChars_ba4f3_88 (by decide) (fun c9 => ?_) (fun c9 => ?_)
      · rw [if_pos c9] at hf
        refine rw_sub [2, 0, 3] rfl ?_
        exact t_jJ6_getChars_ba4f3_104 (ad := ad) (G := G)  x5 v6 σ8 _ hr hf
      · rw [if_neg c9] at hf
        refine rw_aload_n dJ6_getChars_ba4f3_91 2 rfl rfl ?_
        refine rw_iinc (v := x5 + (-1)) (lv2 := [(5, .int (x5 + (-1))), (0, .int v0), (2, .ref q), (6, .int v6)]) dJ6_getChars_ba4f3_92 0 rfl rfl (by decide) rfl ?_
        refine nmL hf (fun x10 hf => ?_)
        refine rw_iload dJ6_getChars_ba4f3_95 0 rfl ?_
        refine rw_getstatic (v := .ref G.2.2.2.2.1.1) dJ6_getChars_ba4f3_97 wm1305 (fun s hs => hs.2.2.2.2.2.1) ?_
        refine rw_iload_n dJ6_getChars_ba4f3_100 1 rfl rfl ?_
        refine rw_ineg dJ6_getChars_ba4f3_101 ?_
        obtain ⟨hi11, hf⟩ := grd hf
        refine rw_dT dJ6_getChars_ba4f3_102 (inB_in hi11) ?_
        obtain ⟨hi12, hf⟩ := grd hf
        refine ssq hr dJ6_getChars_ba4f3_103 (inB_in hi12) (fun h hr => ?_)
        refine nmSq hf hr (fun σ13 hr hf => ?_)
        refine rw_sub [2, 0, 3] rfl ?_
        exact t_jJ6_getChars_ba4f3_104 (ad := ad) (G := G)  x10 v6 σ13 _ hr hf
    · rw [if_neg c4] at hf
      refine rw_iload_n dJ6_getChars_ba4f3_28 0 rfl rfl ?_
      refine rw_bipush (v := 100) dJ6_getChars_ba4f3_29 (by decide) ?_
      refine rw_idiv dJ6_getChars_ba4f3_31 (by decide) ?_
      refine nmI hf (fun x15 hf => ?_)
      refine rw_istore_n (lv2 := [(3, .int x15), (0, .int v0), (2, .ref q), (5, .int v5), (6, .int v6)]) dJ6_getChars_ba4f3_32 rfl (by decide) rfl ?_
      refine rw_iload_n dJ6_getChars_ba4f3_33 0 rfl rfl ?_
      refine rw_bipush (v := 100) dJ6_getChars_ba4f3_34 (by decide) ?_
      refine rw_imul dJ6_getChars_ba4f3_36 ?_
      refine rw_iload_n dJ6_getChars_ba4f3_37 1 rfl rfl ?_
      refine rw_isub dJ6_getChars_ba4f3_38 ?_
      refine nmI hf (fun x16 hf => ?_)
      refine rw_istore (lv2 := [(4, .int x16), (3, .int x15), (0, .int v0), (2, .ref q), (5, .int v5), (6, .int v6)]) dJ6_getChars_ba4f3_39 (by decide) rfl ?_
      refine rw_iload_n dJ6_getChars_ba4f3_41 1 rfl rfl ?_
      refine rw_istore_n (lv2 := [(0, .int x15), (4, .int x16), (3, .int x15), (2, .ref q), (5, .int v5), (6, .int v6)]) dJ6_getChars_ba4f3_42 rfl (by decide) rfl ?_
      refine rw_aload_n dJ6_getChars_ba4f3_43 3 rfl rfl ?_
      refine rw_iinc (v := v5 + (-1)) (lv2 := [(5, .int (v5 + (-1))), (0, .int x15), (4, .int x16), (3, .int x15), (2, .ref q), (6, .int v6)]) dJ6_getChars_ba4f3_44 4 rfl rfl (by decide) rfl ?_
      refine nmL hf (fun x17 hf => ?_)
      refine rw_iload dJ6_getChars_ba4f3_47 0 rfl ?_
      refine rw_getstatic (v := .ref G.2.2.2.2.1.2) dJ6_getChars_ba4f3_49 wm1303 (fun s hs => hs.2.2.2.2.2.2.2.1) ?_
      refine rw_iload dJ6_getChars_ba4f3_52 2 rfl ?_
      obtain ⟨hi18, hf⟩ := grd hf
      refine rw_dO dJ6_getChars_ba4f3_54 (inB_in hi18) ?_
      obtain ⟨hi19, hf⟩ := grd hf
      refine ssq hr dJ6_getChars_ba4f3_55 (inB_in hi19) (fun h hr => ?_)
      refine nmSq hf hr (fun σ20 hr hf => ?_)
      refine rw_aload_n dJ6_getChars_ba4f3_56 4 rfl rfl ?_
      refine rw_iinc (v := x17 + (-1)) (lv2 := [(5, .int (x17 + (-1))), (0, .int x15), (4, .int x16), (3, .int x15), (2, .ref q), (6, .int v6)]) dJ6_getChars_ba4f3_57 0 rfl rfl (by decide) rfl ?_
      refine nmL hf (fun x21 hf => ?_)
      refine rw_iload dJ6_getChars_ba4f3_60 0 rfl ?_
      refine rw_getstatic (v := .ref G.2.2.2.2.1.1) dJ6_getChars_ba4f3_62 wm1305 (fun s hs => hs.2.2.2.2.2.1) ?_
      refine rw_iload dJ6_getChars_ba4f3_65 2 rfl ?_
      obtain ⟨hi22, hf⟩ := grd hf
      refine rw_dT dJ6_getChars_ba4f3_67 (inB_in hi22) ?_
      obtain ⟨hi23, hf⟩ := grd hf
      refine ssq hr dJ6_getChars_ba4f3_68 (inB_in hi23) (fun h hr => ?_)
      refine nmSq hf hr (fun σ24 hr hf => ?_)
      refine rw_goto (tgt := 22) dJ6_getChars_ba4f3_69 (by decide) ?_
      refine rw_sub [1, 4, 0, 5] rfl ?_
      exact ih x15 x21 v6 σ24 _ hr hf
def jJ6_getChars_ba4f3_12  (v0 : Int32) (v5 : Int32) (s0 : Int32) (σ : rS) : Option (Int32 × rS) := if s0 = 0 then vI (-v0) fun x3 => lJ6_getChars_ba4f3_22 1000 x3 v5 s0 σ else lJ6_getChars_ba4f3_22 1000 v0 v5 s0 σ
set_option maxHeartbeats 4000000 in
theorem t_jJ6_getChars_ba4f3_12 {G : rG} {ad : Nat → Nat} {q : Nat} {o : (Int32 × rS)}   (v0 : Int32) (v5 : Int32) (s0 : Int32) (σ : rS) (h : rH) (hr : RepQ G ad q σ h) (hf : jJ6_getChars_ba4f3_12  v0 v5 s0 σ = some o) : RW G mJ6_getChars_ba4f3 (rm 0 0 0) (qIq G ad q o) xN 0 0 12 [(0, .int v0), (2, .ref q), (5, .int v5)] [.int s0] h := by
  unfold jJ6_getChars_ba4f3_12 at hf
  refine rw_istore (lv2 := [(6, .int s0), (0, .int v0), (2, .ref q), (5, .int v5)]) dJ6_getChars_ba4f3_12 (by decide) rfl ?_
  refine rw_iload dJ6_getChars_ba4f3_14 0 rfl ?_
  refine rw_if_ne (tgt := 22) dJ6_getChars_ba4f3_16 (by decide) (fun c2 => ?_) (fun c2 => ?_)
  · rw [if_neg c2] at hf
    refine rw_sub [1, 2, 3, 0] rfl ?_
    exact t_lJ6_getChars_ba4f3_22 (ad := ad) (G := G)  1000 v0 v5 s0 σ _ hr hf
  · rw [if_pos c2] at hf
    refine rw_iload_n dJ6_getChars_ba4f3_19 1 rfl rfl ?_
    refine rw_ineg dJ6_getChars_ba4f3_20 ?_
    refine nmI hf (fun x3 hf => ?_)
    refine rw_istore_n (lv2 := [(0, .int x3), (6, .int s0), (2, .ref q), (5, .int v5)]) dJ6_getChars_ba4f3_21 rfl (by decide) rfl ?_
    refine rw_sub [0, 2, 3, 1] rfl ?_
    exact t_lJ6_getChars_ba4f3_22 (ad := ad) (G := G)  1000 x3 v5 s0 σ _ hr hf
def fJ6_getChars_ba4f3 (a0 : Int32) (a1 : Int32) (σ : rS) : Option (Int32 × rS) := if 0 ≤ a0 then jJ6_getChars_ba4f3_12 a0 a1 0 σ else jJ6_getChars_ba4f3_12 a0 a1 1 σ
set_option maxHeartbeats 4000000 in
theorem cmJ6_getChars_ba4f3 {G : rG} {ad : Nat → Nat} {a0 : Int32} {a1 : Int32} {σ : rS} {h : rH} {q : Nat} {o : (Int32 × rS)} (hr : RepQ G ad q σ h) (hf : fJ6_getChars_ba4f3 a0 a1 σ = some o) : rMT G mJ6_getChars_ba4f3 (rm 0 0 0) [.int a0, .int a1, .ref q] h (qIq G ad q o) xN := by
  unfold fJ6_getChars_ba4f3 at hf
  refine rw_met (by decide +kernel) rfl (Nat.le_of_ble_eq_true rfl) ?_
  show RW G _ _ _ _ 0 0 0 [(0, .int a0), (1, .int a1), (2, .ref q)] [] h
  refine rw_iload_n dJ6_getChars_ba4f3_0 1 rfl rfl ?_
  refine rw_istore (lv2 := [(5, .int a1), (0, .int a0), (1, .int a1), (2, .ref q)]) dJ6_getChars_ba4f3_1 (by decide) rfl ?_
  refine rw_iload_n dJ6_getChars_ba4f3_3 1 rfl rfl ?_
  refine rw_if_ge (tgt := 11) dJ6_getChars_ba4f3_4 (by decide) (fun c1 => ?_) (fun c1 => ?_)
  · rw [if_pos c1] at hf
    refine rw_iconst (v := 0) dJ6_getChars_ba4f3_11 (by decide) ?_
    refine rw_sub [1, 3, 0] rfl ?_
    exact t_jJ6_getChars_ba4f3_12 (ad := ad) (G := G)  a0 a1 0 σ _ hr hf
  · rw [if_neg c1] at hf
    refine rw_iconst (v := 1) dJ6_getChars_ba4f3_7 (by decide) ?_
    refine rw_goto (tgt := 12) dJ6_getChars_ba4f3_8 (by decide) ?_
    refine rw_sub [1, 3, 0] rfl ?_
    exact t_jJ6_getChars_ba4f3_12 (ad := ad) (G := G)  a0 a1 1 σ _ hr hf
def jJ5_append_3fe6f_75   (σ : rS) : Option (Nat × rS) := some (40, σ)
set_option maxHeartbeats 4000000 in
theorem t_jJ5_append_3fe6f_75 {G : rG} {ad : Nat → Nat} {q : Nat} {o : (Nat × rS)}    (σ : rS) (h : rH) (hr : RepQ G ad q σ h) (hf : jJ5_append_3fe6f_75   σ = some o) : RW G mJ5_append_3fe6f (rm 4 1 142) (qA G ad o) xN 1 142 75 [(0, .ref (ad 40))] [] h := by
  unfold jJ5_append_3fe6f_75 at hf
  refine rw_aload_n dJ5_append_3fe6f_75 0 rfl rfl ?_
  replace hf := Option.some.inj hf
  subst hf
  exact rw_areturn dJ5_append_3fe6f_76 rfl (Or.inl ⟨_, rfl⟩) ⟨rfl, ⟨_, hr⟩⟩ (by decide) (by decide)
def jJ5_append_3fe6f_56  (v1 : Int32) (σ : rS) : Option (Nat × rS) := vS (uI σ 40 3 ((σ.1 40 3) + 1)) fun σ11 => none
set_option maxHeartbeats 4000000 in
theorem t_jJ5_append_3fe6f_56 {G : rG} {ad : Nat → Nat} {q : Nat} {o : (Nat × rS)}   (v1 : Int32) (σ : rS) (h : rH) (hr : RepQ G ad q σ h) (hf : jJ5_append_3fe6f_56  v1 σ = some o) : RW G mJ5_append_3fe6f (rm 4 1 142) (qA G ad o) xN 1 142 56 [(0, .ref (ad 40)), (1, .int v1)] [] h := by
  unfold jJ5_append_3fe6f_56 at hf
  refine rw_aload_n dJ5_append_3fe6f_56 0 rfl rfl ?_
  refine sgq_40_0 hr dJ5_append_3fe6f_57 fl427 ?_
  refine rw_aload_n dJ5_append_3fe6f_60 0 rfl rfl ?_
  refine rw_dup dJ5_append_3fe6f_61 rfl ?_
  refine sgq_40_3 hr dJ5_append_3fe6f_62 fl431 ?_
  refine rw_dup_x1 dJ5_append_3fe6f_65 rfl rfl ?_
  refine rw_iconst (v := 1) dJ5_append_3fe6f_66 (by decide) ?_
  refine rw_iadd dJ5_append_3fe6f_67 ?_
  refine spq_40_3 hr dJ5_append_3fe6f_68 fl431 (fun h hr => ?_)
  refine nmSq hf hr (fun σ11 hr hf => ?_)
  refine rw_iload_n dJ5_append_3fe6f_71 1 rfl rfl ?_
  cases hf
def jJ5_append_3fe6f_45  (v1 : Int32) (σ : rS) : Option (Nat × rS) := (fJ5_isLatin1_aae02 σ).bind fun q9 => if q9.1 = 0 then jJ5_append_3fe6f_56 v1 q9.2 else none
set_option maxHeartbeats 4000000 in
theorem t_jJ5_append_3fe6f_45 {G : rG} {ad : Nat → Nat} {q : Nat} {o : (Nat × rS)}   (v1 : Int32) (σ : rS) (h : rH) (hr : RepQ G ad q σ h) (hf : jJ5_append_3fe6f_45  v1 σ = some o) : RW G mJ5_append_3fe6f (rm 4 1 142) (qA G ad o) xN 1 142 45 [(0, .ref (ad 40)), (1, .int v1)] [] h := by
  unfold jJ5_append_3fe6f_45 at hf
  refine rw_aload_n dJ5_append_3fe6f_45 0 rfl rfl ?_
  obtain ⟨q9, hq9, hf⟩ := bnd hf
  refine kU_I (ad := ad) (As := []) (st := []) dJ5_append_3fe6f_46 calJ5_isLatin1_aae02 wm1227 wm1229 wm1230 wm1228 rfl rfl (rc_40 ⟨_, hr⟩) (Nat.le_of_ble_eq_true rfl) ⟨⟨by decide, by decide⟩, by decide, by decide⟩ (cmJ5_isLatin1_aae02 ⟨_, hr⟩ hq9) (fun h hr => ?_)
  obtain ⟨q, hr⟩ := hr
  refine rw_if_eq (tgt := 56) dJ5_append_3fe6f_49 (by decide) (fun c10 => ?_) (fun c10 => ?_)
  · rw [if_pos c10] at hf
    exact t_jJ5_append_3fe6f_56 (ad := ad) (G := G)  v1 q9.2 _ hr hf
  · rw [if_neg c10] at hf
    refine rw_aload_n dJ5_append_3fe6f_52 0 rfl rfl ?_
    cases hf
def fJ5_append_3fe6f (a0 : Int32) (σ : rS) : Option (Nat × rS) := (fJ5_ensureCapacityInternal_d00df ((σ.1 40 3) + 1) σ).bind fun q1 => (fJ5_isLatin1_aae02 q1.2).bind fun q2 => if q2.1 = 0 then jJ5_append_3fe6f_45 a0 q2.2 else (fJ1_canEncode_fc78d a0 q2.2).bind fun q4 => if q4.1 = 0 then jJ5_append_3fe6f_45 a0 q4.2 else vS (uI q4.2 40 3 ((q4.2.1 40 3) + 1)) fun σ6 => if inB (q4.2.1 40 3) σ6.2.2.2.2.1 then vS (uB σ6 σ6.2.2.2.2.1 (upd σ6.2.2.2.2.2 (q4.2.1 40 3).toNatClampNeg (vp_nar .byte a0.toInt8.toInt32))) fun σ8 => jJ5_append_3fe6f_75 σ8 else none
set_option maxHeartbeats 4000000 in
theorem cmJ5_append_3fe6f {G : rG} {ad : Nat → Nat} {a0 : Int32} {σ : rS} {h : rH} {o : (Nat × rS)} (hr : Rep G ad σ h) (hf : fJ5_append_3fe6f a0 σ = some o) : rMT G mJ5_append_3fe6f (rm 4 1 142) [.ref (ad 40), .int a0] h (qA G ad o) xN := by
  unfold fJ5_append_3fe6f at hf
  refine rw_met (by decide +kernel) rfl (Nat.le_of_ble_eq_true rfl) ?_
  obtain ⟨q, hr⟩ := hr
  show RW G _ _ _ _ 0 0 0 [(0, .ref (ad 40)), (1, .int a0)] [] h
  refine rw_aload_n dJ5_append_3fe6f_0 0 rfl rfl ?_
  refine rw_aload_n dJ5_append_3fe6f_1 0 rfl rfl ?_
  refine sgq_40_3 hr dJ5_append_3fe6f_2 fl431 ?_
  refine rw_iconst (v := 1) dJ5_append_3fe6f_5 (by decide) ?_
  refine rw_iadd dJ5_append_3fe6f_6 ?_
  obtain ⟨q1, hq1, hf⟩ := bnd hf
  refine kU_V (ad := ad) (As := [.int ((σ.1 40 3) + 1)]) (st := []) dJ5_append_3fe6f_7 calJ5_ensureCapacityInternal_d00df wm1196 wm1866 wx0 wm1198 rfl rfl (rc_40 ⟨_, hr⟩) (Nat.le_of_ble_eq_true rfl) ⟨⟨by decide, by decide⟩, by decide, by decide⟩ (cmJ5_ensureCapacityInternal_d00df ⟨_, hr⟩ hq1) (fun h hr => ?_)
  obtain ⟨q, hr⟩ := hr
  refine rw_aload_n dJ5_append_3fe6f_10 0 rfl rfl ?_
  obtain ⟨q2, hq2, hf⟩ := bnd hf
  refine kU_I (ad := ad) (As := []) (st := []) dJ5_append_3fe6f_11 calJ5_isLatin1_aae02 wm1227 wm1229 wm1230 wm1228 rfl rfl (rc_40 ⟨_, hr⟩) (Nat.le_of_ble_eq_true rfl) ⟨⟨by decide, by decide⟩, by decide, by decide⟩ (cmJ5_isLatin1_aae02 ⟨_, hr⟩ hq2) (fun h hr => ?_)
  obtain ⟨q, hr⟩ := hr
  refine rw_if_eq (tgt := 45) dJ5_append_3fe6f_14 (by decide) (fun c3 => ?_) (fun c3 => ?_)
  · rw [if_pos c3] at hf
    exact t_jJ5_append_3fe6f_45 (ad := ad) (G := G)  a0 q2.2 _ hr hf
  · rw [if_neg c3] at hf
    refine rw_iload_n dJ5_append_3fe6f_17 1 rfl rfl ?_
    obtain ⟨q4, hq4, hf⟩ := bnd hf
    refine kS_I (ad := ad) (As := [.int a0]) (st := []) dJ5_append_3fe6f_18 calJ1_canEncode_fc78d wm1442 wm1443 rfl rfl (Nat.le_of_ble_eq_true rfl) ⟨⟨by decide, by decide⟩, by decide, by decide⟩ (cmJ1_canEncode_fc78d ⟨_, hr⟩ hq4) (fun h hr => ?_)
    obtain ⟨q, hr⟩ := hr
    refine rw_if_eq (tgt := 45) dJ5_append_3fe6f_21 (by decide) (fun c5 => ?_) (fun c5 => ?_)
    · rw [if_pos c5] at hf
      exact t_jJ5_append_3fe6f_45 (ad := ad) (G := G)  a0 q4.2 _ hr hf
    · rw [if_neg c5] at hf
      refine rw_aload_n dJ5_append_3fe6f_24 0 rfl rfl ?_
      refine sgq_40_0 hr dJ5_append_3fe6f_25 fl427 ?_
      refine rw_aload_n dJ5_append_3fe6f_28 0 rfl rfl ?_
      refine rw_dup dJ5_append_3fe6f_29 rfl ?_
      refine sgq_40_3 hr dJ5_append_3fe6f_30 fl431 ?_
      refine rw_dup_x1 dJ5_append_3fe6f_33 rfl rfl ?_
      refine rw_iconst (v := 1) dJ5_append_3fe6f_34 (by decide) ?_
      refine rw_iadd dJ5_append_3fe6f_35 ?_
      refine spq_40_3 hr dJ5_append_3fe6f_36 fl431 (fun h hr => ?_)
      refine nmSq hf hr (fun σ6 hr hf => ?_)
      refine rw_iload_n dJ5_append_3fe6f_39 1 rfl rfl ?_
      refine rw_i2b dJ5_append_3fe6f_40 ?_
      obtain ⟨hi7, hf⟩ := grd hf
      refine ssq hr dJ5_append_3fe6f_41 (inB_in hi7) (fun h hr => ?_)
      refine nmSq hf hr (fun σ8 hr hf => ?_)
      refine rw_goto (tgt := 75) dJ5_append_3fe6f_42 (by decide) ?_
      refine rw_sub [0] rfl ?_
      exact t_jJ5_append_3fe6f_75 (ad := ad) (G := G)  σ8 _ hr hf
def jJ5_append_c97b9_48  (v3 : Int32) (σ : rS) : Option (Nat × rS) := vS (uI σ 40 3 v3) fun σ8 => some (40, σ8)
set_option maxHeartbeats 4000000 in
theorem t_jJ5_append_c97b9_48 {G : rG} {ad : Nat → Nat} {q : Nat} {o : (Nat × rS)}   (v3 : Int32) (σ : rS) (h : rH) (hr : RepQ G ad q σ h) (hf : jJ5_append_c97b9_48  v3 σ = some o) : RW G mJ5_append_c97b9 (rm 4 1 142) (qA G ad o) xN 1 142 48 [(0, .ref (ad 40)), (3, .int v3)] [] h := by
  unfold jJ5_append_c97b9_48 at hf
  refine rw_aload_n dJ5_append_c97b9_48 0 rfl rfl ?_
  refine rw_iload_n dJ5_append_c97b9_49 1 rfl rfl ?_
  refine spq_40_3 hr dJ5_append_c97b9_50 fl431 (fun h hr => ?_)
  refine nmSq hf hr (fun σ8 hr hf => ?_)
  refine rw_aload_n dJ5_append_c97b9_53 0 rfl rfl ?_
  replace hf := Option.some.inj hf
  subst hf
  exact rw_areturn dJ5_append_c97b9_54 rfl (Or.inl ⟨_, rfl⟩) ⟨rfl, ⟨_, hr⟩⟩ (by decide) (by decide)
def fJ5_append_c97b9 (a0 : Int32) (σ : rS) : Option (Nat × rS) := vI (σ.1 40 3) fun x1 => (fJ6_stringSize_0f7a4 a0 σ).bind fun q2 => vI (x1 + q2.1) fun x3 => (fJ5_ensureCapacityInternal_d00df x3 q2.2).bind fun q4 => (fJ5_isLatin1_aae02 q4.2).bind fun q5 => if q5.1 = 0 then none else (fJ6_getChars_ba4f3 a0 x3 q5.2).bind fun q7 => jJ5_append_c97b9_48 x3 q7.2
set_option maxHeartbeats 4000000 in
theorem cmJ5_append_c97b9 {G : rG} {ad : Nat → Nat} {a0 : Int32} {σ : rS} {h : rH} {o : (Nat × rS)} (hr : Rep G ad σ h) (hf : fJ5_append_c97b9 a0 σ = some o) : rMT G mJ5_append_c97b9 (rm 4 1 142) [.ref (ad 40), .int a0] h (qA G ad o) xN := by
  unfold fJ5_append_c97b9 at hf
  refine rw_met (by decide +kernel) rfl (Nat.le_of_ble_eq_true rfl) ?_
  obtain ⟨q, hr⟩ := hr
  show RW G _ _ _ _ 0 0 0 [(0, .ref (ad 40)), (1, .int a0)] [] h
  refine rw_aload_n dJ5_append_c97b9_0 0 rfl rfl ?_
  refine sgq_40_3 hr dJ5_append_c97b9_1 fl431 ?_
  refine nmI hf (fun x1 hf => ?_)
  refine rw_istore_n (lv2 := [(2, .int x1), (0, .ref (ad 40)), (1, .int a0)]) dJ5_append_c97b9_4 rfl (by decide) rfl ?_
  refine rw_iload_n dJ5_append_c97b9_5 0 rfl rfl ?_
  refine rw_iload_n dJ5_append_c97b9_6 2 rfl rfl ?_
  obtain ⟨q2, hq2, hf⟩ := bnd hf
  refine kS_I (ad := ad) (As := [.int a0]) (st := [.int x1]) dJ5_append_c97b9_7 calJ6_stringSize_0f7a4 wm1297 wm1298 rfl rfl (Nat.le_of_ble_eq_true rfl) ⟨⟨by decide, by decide⟩, by decide, by decide⟩ (cmJ6_stringSize_0f7a4 ⟨_, hr⟩ hq2) (fun h hr => ?_)
  obtain ⟨q, hr⟩ := hr
  refine rw_iadd dJ5_append_c97b9_10 ?_
  refine nmI hf (fun x3 hf => ?_)
  refine rw_istore_n (lv2 := [(3, .int x3), (2, .int x1), (0, .ref (ad 40)), (1, .int a0)]) dJ5_append_c97b9_11 rfl (by decide) rfl ?_
  refine rw_aload_n dJ5_append_c97b9_12 2 rfl rfl ?_
  refine rw_iload_n dJ5_append_c97b9_13 0 rfl rfl ?_
  obtain ⟨q4, hq4, hf⟩ := bnd hf
  refine kU_V (ad := ad) (As := [.int x3]) (st := []) dJ5_append_c97b9_14 calJ5_ensureCapacityInternal_d00df wm1196 wm1866 wx0 wm1198 rfl rfl (rc_40 ⟨_, hr⟩) (Nat.le_of_ble_eq_true rfl) ⟨⟨by decide, by decide⟩, by decide, by decide⟩ (cmJ5_ensureCapacityInternal_d00df ⟨_, hr⟩ hq4) (fun h hr => ?_)
  obtain ⟨q, hr⟩ := hr
  refine rw_aload_n dJ5_append_c97b9_17 2 rfl rfl ?_
  obtain ⟨q5, hq5, hf⟩ := bnd hf
  refine kU_I (ad := ad) (As := []) (st := []) dJ5_append_c97b9_18 calJ5_isLatin1_aae02 wm1227 wm1229 wm1230 wm1228 rfl rfl (rc_40 ⟨_, hr⟩) (Nat.le_of_ble_eq_true rfl) ⟨⟨by decide, by decide⟩, by decide, by decide⟩ (cmJ5_isLatin1_aae02 ⟨_, hr⟩ hq5) (fun h hr => ?_)
  obtain ⟨q, hr⟩ := hr
  refine rw_if_eq (tgt := 37) dJ5_append_c97b9_21 (by decide) (fun c6 => ?_) (fun c6 => ?_)
  · rw [if_pos c6] at hf
    refine rw_iload_n dJ5_append_c97b9_37 3 rfl rfl ?_
    refine rw_iload_n dJ5_append_c97b9_38 1 rfl rfl ?_
    refine rw_iload_n dJ5_append_c97b9_39 0 rfl rfl ?_
    refine rw_aload_n dJ5_append_c97b9_40 2 rfl rfl ?_
    refine sgq_40_0 hr dJ5_append_c97b9_41 fl427 ?_
    cases hf
  · rw [if_neg c6] at hf
    refine rw_iload_n dJ5_append_c97b9_24 3 rfl rfl ?_
    refine rw_iload_n dJ5_append_c97b9_25 0 rfl rfl ?_
    refine rw_aload_n dJ5_append_c97b9_26 2 rfl rfl ?_
    refine sgq_40_0 hr dJ5_append_c97b9_27 fl427 ?_
    obtain ⟨q7, hq7, hf⟩ := bnd hf
    refine kS_Iq (ad := ad) (As := [.int a0, .int x3, .ref q]) (st := []) dJ5_append_c97b9_30 calJ6_getChars_ba4f3 wm1300 wm1301 rfl rfl (Nat.le_of_ble_eq_true rfl) ⟨⟨by decide, by decide⟩, by decide, by decide⟩ (cmJ6_getChars_ba4f3 hr hq7) (fun h hr => ?_)
    refine rw_pop dJ5_append_c97b9_33 rfl ?_
    refine rw_goto (tgt := 48) dJ5_append_c97b9_34 (by decide) ?_
    refine rw_sub [2, 0] rfl ?_
    exact t_jJ5_append_c97b9_48 (ad := ad) (G := G)  x3 q7.2 _ hr hf
def fJ5_length_8abf5  (σ : rS) : Option (Int32 × rS) := some ((σ.1 40 3), σ)
set_option maxHeartbeats 4000000 in
theorem cmJ5_length_8abf5 {G : rG} {ad : Nat → Nat}  {σ : rS} {h : rH} {o : (Int32 × rS)} (hr : Rep G ad σ h) (hf : fJ5_length_8abf5  σ = some o) : rMT G mJ5_length_8abf5 (rm 0 0 0) [.ref (ad 40)] h (qI G ad o) xN := by
  unfold fJ5_length_8abf5 at hf
  refine rw_met (by decide +kernel) rfl (Nat.le_of_ble_eq_true rfl) ?_
  show RW G _ _ _ _ 0 0 0 [(0, .ref (ad 40))] [] h
  refine rw_aload_n dJ5_length_8abf5_0 0 rfl rfl ?_
  refine sg_40_3 hr dJ5_length_8abf5_1 fl431 ?_
  replace hf := Option.some.inj hf
  subst hf
  exact rw_ireturn dJ5_length_8abf5_4 rfl ⟨rfl, hr⟩ (by decide) (by decide)
def jJ5_setLength_d00df_76  (v1 : Int32) (σ : rS) : Option (Unit × rS) := vS (uI σ 40 3 v1) fun σ8 => some ((), σ8)
set_option maxHeartbeats 4000000 in
theorem t_jJ5_setLength_d00df_76 {G : rG} {ad : Nat → Nat} {q : Nat} {o : (Unit × rS)}   (v1 : Int32) (σ : rS) (h : rH) (hr : RepQ G ad q σ h) (hf : jJ5_setLength_d00df_76  v1 σ = some o) : RW G mJ5_setLength_d00df (rm 4 1 142) (qV G ad o) xN 1 142 76 [(0, .ref (ad 40)), (1, .int v1)] [] h := by
  unfold jJ5_setLength_d00df_76 at hf
  refine rw_aload_n dJ5_setLength_d00df_76 0 rfl rfl ?_
  refine rw_iload_n dJ5_setLength_d00df_77 1 rfl rfl ?_
  refine spq_40_3 hr dJ5_setLength_d00df_78 fl431 (fun h hr => ?_)
  refine nmSq hf hr (fun σ8 hr hf => ?_)
  replace hf := Option.some.inj hf
  subst hf
  exact rw_return dJ5_setLength_d00df_81 rfl ⟨rfl, ⟨_, hr⟩⟩ (by decide) (by decide)
def fJ5_setLength_d00df (a0 : Int32) (σ : rS) : Option (Unit × rS) := if 0 ≤ a0 then (fJ5_ensureCapacityInternal_d00df a0 σ).bind fun q2 => if a0 ≤ (q2.2.1 40 3) then if (q2.2.1 40 3) ≤ a0 then jJ5_setLength_d00df_76 a0 q2.2 else vS (uI q2.2 40 2 1) fun σ5 => jJ5_setLength_d00df_76 a0 σ5 else (fJ5_isLatin1_aae02 q2.2).bind fun q6 => if q6.1 = 0 then none else none else none
set_option maxHeartbeats 4000000 in
theorem cmJ5_setLength_d00df {G : rG} {ad : Nat → Nat} {a0 : Int32} {σ : rS} {h : rH} {o : (Unit × rS)} (hr : Rep G ad σ h) (hf : fJ5_setLength_d00df a0 σ = some o) : rMT G mJ5_setLength_d00df (rm 4 1 142) [.ref (ad 40), .int a0] h (qV G ad o) xN := by
  unfold fJ5_setLength_d00df at hf
  refine rw_met (by decide +kernel) rfl (Nat.le_of_ble_eq_true rfl) ?_
  obtain ⟨q, hr⟩ := hr
  show RW G _ _ _ _ 0 0 0 [(0, .ref (ad 40)), (1, .int a0)] [] h
  refine rw_iload_n dJ5_setLength_d00df_0 1 rfl rfl ?_
  refine rw_if_ge (tgt := 13) dJ5_setLength_d00df_1 (by decide) (fun c1 => ?_) (fun c1 => ?_)
  · rw [if_pos c1] at hf
    refine rw_aload_n dJ5_setLength_d00df_13 0 rfl rfl ?_
    refine rw_iload_n dJ5_setLength_d00df_14 1 rfl rfl ?_
    obtain ⟨q2, hq2, hf⟩ := bnd hf
    refine kU_V (ad := ad) (As := [.int a0]) (st := []) dJ5_setLength_d00df_15 calJ5_ensureCapacityInternal_d00df wm1196 wm1866 wx0 wm1198 rfl rfl (rc_40 ⟨_, hr⟩) (Nat.le_of_ble_eq_true rfl) ⟨⟨by decide, by decide⟩, by decide, by decide⟩ (cmJ5_ensureCapacityInternal_d00df ⟨_, hr⟩ hq2) (fun h hr => ?_)
    obtain ⟨q, hr⟩ := hr
    refine rw_aload_n dJ5_setLength_d00df_18 0 rfl rfl ?_
    refine sgq_40_3 hr dJ5_setLength_d00df_19 fl431 ?_
    refine rw_iload_n dJ5_setLength_d00df_22 1 rfl rfl ?_
    refine rw_icmp_ge (tgt := 63) dJ5_setLength_d00df_23 (by decide) (fun c3 => ?_) (fun c3 => ?_)
    · rw [if_pos c3] at hf
      refine rw_aload_n dJ5_setLength_d00df_63 0 rfl rfl ?_
      refine sgq_40_3 hr dJ5_setLength_d00df_64 fl431 ?_
      refine rw_iload_n dJ5_setLength_d00df_67 1 rfl rfl ?_
      refine rw_icmp_le (tgt := 76) dJ5_setLength_d00df_68 (by decide) (fun c4 => ?_) (fun c4 => ?_)
      · rw [if_pos c4] at hf
        exact t_jJ5_setLength_d00df_76 (ad := ad) (G := G)  a0 q2.2 _ hr hf
      · rw [if_neg c4] at hf
        refine rw_aload_n dJ5_setLength_d00df_71 0 rfl rfl ?_
        refine rw_iconst (v := 1) dJ5_setLength_d00df_72 (by decide) ?_
        refine spq_40_2 hr dJ5_setLength_d00df_73 fl429 (by decide) (by decide) (fun h hr => ?_)
        refine nmSq hf hr (fun σ5 hr hf => ?_)
        exact t_jJ5_setLength_d00df_76 (ad := ad) (G := G)  a0 σ5 _ hr hf
    · rw [if_neg c3] at hf
      refine rw_aload_n dJ5_setLength_d00df_26 0 rfl rfl ?_
      obtain ⟨q6, hq6, hf⟩ := bnd hf
      refine kU_I (ad := ad) (As := []) (st := []) dJ5_setLength_d00df_27 calJ5_isLatin1_aae02 wm1227 wm1229 wm1230 wm1228 rfl rfl (rc_40 ⟨_, hr⟩) (Nat.le_of_ble_eq_true rfl) ⟨⟨by decide, by decide⟩, by decide, by decide⟩ (cmJ5_isLatin1_aae02 ⟨_, hr⟩ hq6) (fun h hr => ?_)
      obtain ⟨q, hr⟩ := hr
      refine rw_if_eq (tgt := 48) dJ5_setLength_d00df_30 (by decide) (fun c7 => ?_) (fun c7 => ?_)
      · rw [if_pos c7] at hf
        refine rw_aload_n dJ5_setLength_d00df_48 0 rfl rfl ?_
        refine sgq_40_0 hr dJ5_setLength_d00df_49 fl427 ?_
        refine rw_aload_n dJ5_setLength_d00df_52 0 rfl rfl ?_
        refine sgq_40_3 hr dJ5_setLength_d00df_53 fl431 ?_
        refine rw_iload_n dJ5_setLength_d00df_56 1 rfl rfl ?_
        cases hf
      · rw [if_neg c7] at hf
        refine rw_aload_n dJ5_setLength_d00df_33 0 rfl rfl ?_
        refine sgq_40_0 hr dJ5_setLength_d00df_34 fl427 ?_
        refine rw_aload_n dJ5_setLength_d00df_37 0 rfl rfl ?_
        refine sgq_40_3 hr dJ5_setLength_d00df_38 fl431 ?_
        refine rw_iload_n dJ5_setLength_d00df_41 1 rfl rfl ?_
        cases hf
  · rw [if_neg c1] at hf
    cases hf
def fJ5_charAt_5068e (a0 : Int32) (σ : rS) : Option (Int32 × rS) := vI (σ.1 40 1) fun x1 => vI (if ((Int32.ofNat σ.2.2.2.2.1) >>> (x1 &&& 31)) < (σ.1 40 3) then ((Int32.ofNat σ.2.2.2.2.1) >>> (x1 &&& 31)) else (σ.1 40 3)) fun x2 => (fJ0_checkIndex_df160 a0 x2 σ).bind fun q3 => if x1 = 0 then if inB a0 q3.2.2.2.2.2.1 then if narrow .char (.int ((((q3.2.2.2.2.2.2 a0.toNatClampNeg) &&& 255).toUInt32 % 65536).toInt32)) = .int ((((q3.2.2.2.2.2.2 a0.toNatClampNeg) &&& 255).toUInt32 % 65536).toInt32) then some (((((q3.2.2.2.2.2.2 a0.toNatClampNeg) &&& 255).toUInt32 % 65536).toInt32), q3.2) else none else none else none
set_option maxHeartbeats 4000000 in
theorem cmJ5_charAt_5068e {G : rG} {ad : Nat → Nat} {a0 : Int32} {σ : rS} {h : rH} {o : (Int32 × rS)} (hr : Rep G ad σ h) (hf : fJ5_charAt_5068e a0 σ = some o) : rMT G mJ5_charAt_5068e (rm 3 0 0) [.ref (ad 40), .int a0] h (qI G ad o) xN := by
  unfold fJ5_charAt_5068e at hf
  refine rw_met (by decide +kernel) rfl (Nat.le_of_ble_eq_true rfl) ?_
  obtain ⟨q, hr⟩ := hr
  show RW G _ _ _ _ 0 0 0 [(0, .ref (ad 40)), (1, .int a0)] [] h
  refine rw_aload_n dJ5_charAt_5068e_0 0 rfl rfl ?_
  refine sgq_40_1 hr dJ5_charAt_5068e_1 fl428 ?_
  refine nmI hf (fun x1 hf => ?_)
  refine rw_istore_n (lv2 := [(2, .int x1), (0, .ref (ad 40)), (1, .int a0)]) dJ5_charAt_5068e_4 rfl (by decide) rfl ?_
  refine rw_aload_n dJ5_charAt_5068e_5 1 rfl rfl ?_
  refine sgq_40_0 hr dJ5_charAt_5068e_6 fl427 ?_
  refine rw_astore_n (lv2 := [(3, .ref q), (2, .int x1), (0, .ref (ad 40)), (1, .int a0)]) dJ5_charAt_5068e_9 rfl (by decide) rfl ?_
  refine rw_aload_n dJ5_charAt_5068e_10 2 rfl rfl ?_
  refine sgq_40_3 hr dJ5_charAt_5068e_11 fl431 ?_
  refine rw_aload_n dJ5_charAt_5068e_14 0 rfl rfl ?_
  refine alenq hr dJ5_charAt_5068e_15 ?_
  refine rw_iload_n dJ5_charAt_5068e_16 1 rfl rfl ?_
  refine rw_ishr dJ5_charAt_5068e_17 ?_
  refine rw_mmin dJ5_charAt_5068e_18 wm792 (by decide) (Nat.le_of_ble_eq_true rfl) (by decide) (by decide) ?_
  refine nmI hf (fun x2 hf => ?_)
  refine rw_istore (lv2 := [(4, .int x2), (3, .ref q), (2, .int x1), (0, .ref (ad 40)), (1, .int a0)]) dJ5_charAt_5068e_21 (by decide) rfl ?_
  refine rw_iload_n dJ5_charAt_5068e_23 4 rfl rfl ?_
  refine rw_iload dJ5_charAt_5068e_24 0 rfl ?_
  obtain ⟨q3, hq3, hf⟩ := bnd hf
  refine kS_Vq (ad := ad) (As := [.int a0, .int x2]) (st := []) dJ5_charAt_5068e_26 calJ0_checkIndex_df160 wm793 wm794 rfl rfl (Nat.le_of_ble_eq_true rfl) ⟨⟨by decide, by decide⟩, by decide, by decide⟩ (cmJ0_checkIndex_df160 hr hq3) (fun h hr => ?_)
  refine rw_iload_n dJ5_charAt_5068e_29 2 rfl rfl ?_
  refine rw_if_ne (tgt := 42) dJ5_charAt_5068e_30 (by decide) (fun c4 => ?_) (fun c4 => ?_)
  · rw [if_neg c4] at hf
    refine rw_aload_n dJ5_charAt_5068e_42 1 rfl rfl ?_
    refine rw_iload_n dJ5_charAt_5068e_43 4 rfl rfl ?_
    cases hf
  · rw [if_pos c4] at hf
    refine rw_aload_n dJ5_charAt_5068e_33 1 rfl rfl ?_
    refine rw_iload_n dJ5_charAt_5068e_34 4 rfl rfl ?_
    obtain ⟨hi5, hf⟩ := grd hf
    refine slq hr dJ5_charAt_5068e_35 (inB_in hi5) ?_
    refine rw_sipush (v := 255) dJ5_charAt_5068e_36 (by decide) ?_
    refine rw_iand dJ5_charAt_5068e_39 ?_
    refine rw_i2c dJ5_charAt_5068e_40 ?_
    obtain ⟨hz6, hf⟩ := grd hf
    replace hf := Option.some.inj hf
    subst hf
    exact rw_zreturn dJ5_charAt_5068e_41 rfl hz6 ⟨rfl, ⟨_, hr⟩⟩ (by decide) (by decide)
def fJ4_append_cf468 (a0 : Int32) (σ : rS) : Option (Nat × rS) := (fJ5_append_3fe6f a0 σ).bind fun q1 => some (40, q1.2)
set_option maxHeartbeats 4000000 in
theorem cmJ4_append_cf468 {G : rG} {ad : Nat → Nat} {a0 : Int32} {σ : rS} {h : rH} {o : (Nat × rS)} (hr : Rep G ad σ h) (hf : fJ4_append_cf468 a0 σ = some o) : rMT G mJ4_append_cf468 (rm 5 1 142) [.ref (ad 40), .int a0] h (qA G ad o) xN := by
  unfold fJ4_append_cf468 at hf
  refine rw_met (by decide +kernel) rfl (Nat.le_of_ble_eq_true rfl) ?_
  show RW G _ _ _ _ 0 0 0 [(0, .ref (ad 40)), (1, .int a0)] [] h
  refine rw_aload_n dJ4_append_cf468_0 0 rfl rfl ?_
  refine rw_iload_n dJ4_append_cf468_1 1 rfl rfl ?_
  obtain ⟨q1, hq1, hf⟩ := bnd hf
  refine kSU_A (ad := ad) (As := [.int a0]) (st := []) dJ4_append_cf468_2 calJ5_append_3fe6f (by decide) wm1439 wm1873 wm440 wm1440 rfl rfl (rc_40 hr) (Nat.le_of_ble_eq_true rfl) ⟨⟨by decide, by decide⟩, by decide, by decide⟩ (cmJ5_append_3fe6f hr hq1) (fun h hr => ?_)
  refine rw_pop dJ4_append_cf468_5 rfl ?_
  refine rw_aload_n dJ4_append_cf468_6 0 rfl rfl ?_
  replace hf := Option.some.inj hf
  subst hf
  exact rw_areturn dJ4_append_cf468_7 rfl (Or.inl ⟨_, rfl⟩) ⟨rfl, hr⟩ (by decide) (by decide)
def fJ4_append_bf812 (a0 : Int32) (σ : rS) : Option (Nat × rS) := (fJ5_append_c97b9 a0 σ).bind fun q1 => some (40, q1.2)
set_option maxHeartbeats 4000000 in
theorem cmJ4_append_bf812 {G : rG} {ad : Nat → Nat} {a0 : Int32} {σ : rS} {h : rH} {o : (Nat × rS)} (hr : Rep G ad σ h) (hf : fJ4_append_bf812 a0 σ = some o) : rMT G mJ4_append_bf812 (rm 5 1 142) [.ref (ad 40), .int a0] h (qA G ad o) xN := by
  unfold fJ4_append_bf812 at hf
  refine rw_met (by decide +kernel) rfl (Nat.le_of_ble_eq_true rfl) ?_
  show RW G _ _ _ _ 0 0 0 [(0, .ref (ad 40)), (1, .int a0)] [] h
  refine rw_aload_n dJ4_append_bf812_0 0 rfl rfl ?_
  refine rw_iload_n dJ4_append_bf812_1 1 rfl rfl ?_
  obtain ⟨q1, hq1, hf⟩ := bnd hf
  refine kSU_A (ad := ad) (As := [.int a0]) (st := []) dJ4_append_bf812_2 calJ5_append_c97b9 (by decide) wm1294 wm1871 wm440 wm1295 rfl rfl (rc_40 hr) (Nat.le_of_ble_eq_true rfl) ⟨⟨by decide, by decide⟩, by decide, by decide⟩ (cmJ5_append_c97b9 hr hq1) (fun h hr => ?_)
  refine rw_pop dJ4_append_bf812_5 rfl ?_
  refine rw_aload_n dJ4_append_bf812_6 0 rfl rfl ?_
  replace hf := Option.some.inj hf
  subst hf
  exact rw_areturn dJ4_append_bf812_7 rfl (Or.inl ⟨_, rfl⟩) ⟨rfl, hr⟩ (by decide) (by decide)
def fJ4_setLength_d00df (a0 : Int32) (σ : rS) : Option (Unit × rS) := (fJ5_setLength_d00df a0 σ).bind fun q1 => some ((), q1.2)
set_option maxHeartbeats 4000000 in
theorem cmJ4_setLength_d00df {G : rG} {ad : Nat → Nat} {a0 : Int32} {σ : rS} {h : rH} {o : (Unit × rS)} (hr : Rep G ad σ h) (hf : fJ4_setLength_d00df a0 σ = some o) : rMT G mJ4_setLength_d00df (rm 5 1 142) [.ref (ad 40), .int a0] h (qV G ad o) xN := by
  unfold fJ4_setLength_d00df at hf
  refine rw_met (by decide +kernel) rfl (Nat.le_of_ble_eq_true rfl) ?_
  show RW G _ _ _ _ 0 0 0 [(0, .ref (ad 40)), (1, .int a0)] [] h
  refine rw_aload_n dJ4_setLength_d00df_0 0 rfl rfl ?_
  refine rw_iload_n dJ4_setLength_d00df_1 1 rfl rfl ?_
  obtain ⟨q1, hq1, hf⟩ := bnd hf
  refine kSU_V (ad := ad) (As := [.int a0]) (st := []) dJ4_setLength_d00df_2 calJ5_setLength_d00df (by decide) wm1174 wm1863 wm440 wm1175 rfl rfl (rc_40 hr) (Nat.le_of_ble_eq_true rfl) ⟨⟨by decide, by decide⟩, by decide, by decide⟩ (cmJ5_setLength_d00df hr hq1) (fun h hr => ?_)
  replace hf := Option.some.inj hf
  subst hf
  exact rw_return dJ4_setLength_d00df_5 rfl ⟨rfl, hr⟩ (by decide) (by decide)
def fJ4_length_8abf5  (σ : rS) : Option (Int32 × rS) := (fJ5_length_8abf5 σ).bind fun q1 => some (q1.1, q1.2)
set_option maxHeartbeats 4000000 in
theorem cmJ4_length_8abf5 {G : rG} {ad : Nat → Nat}  {σ : rS} {h : rH} {o : (Int32 × rS)} (hr : Rep G ad σ h) (hf : fJ4_length_8abf5  σ = some o) : rMT G mJ4_length_8abf5 (rm 1 0 0) [.ref (ad 40)] h (qI G ad o) xN := by
  unfold fJ4_length_8abf5 at hf
  refine rw_met (by decide +kernel) rfl (Nat.le_of_ble_eq_true rfl) ?_
  show RW G _ _ _ _ 0 0 0 [(0, .ref (ad 40))] [] h
  refine rw_aload_n dJ4_length_8abf5_0 0 rfl rfl ?_
  obtain ⟨q1, hq1, hf⟩ := bnd hf
  refine kSU_I (ad := ad) (As := []) (st := []) dJ4_length_8abf5_1 calJ5_length_8abf5 (by decide) wm782 wm1860 wm440 wm783 rfl rfl (rc_40 hr) (Nat.le_of_ble_eq_true rfl) ⟨⟨by decide, by decide⟩, by decide, by decide⟩ (cmJ5_length_8abf5 hr hq1) (fun h hr => ?_)
  replace hf := Option.some.inj hf
  subst hf
  exact rw_ireturn dJ4_length_8abf5_4 rfl ⟨rfl, hr⟩ (by decide) (by decide)
def fJ4_charAt_5068e (a0 : Int32) (σ : rS) : Option (Int32 × rS) := (fJ5_charAt_5068e a0 σ).bind fun q1 => if narrow .char (.int q1.1) = .int q1.1 then some (q1.1, q1.2) else none
set_option maxHeartbeats 4000000 in
theorem cmJ4_charAt_5068e {G : rG} {ad : Nat → Nat} {a0 : Int32} {σ : rS} {h : rH} {o : (Int32 × rS)} (hr : Rep G ad σ h) (hf : fJ4_charAt_5068e a0 σ = some o) : rMT G mJ4_charAt_5068e (rm 4 0 0) [.ref (ad 40), .int a0] h (qI G ad o) xN := by
  unfold fJ4_charAt_5068e at hf
  refine rw_met (by decide +kernel) rfl (Nat.le_of_ble_eq_true rfl) ?_
  show RW G _ _ _ _ 0 0 0 [(0, .ref (ad 40)), (1, .int a0)] [] h
  refine rw_aload_n dJ4_charAt_5068e_0 0 rfl rfl ?_
  refine rw_iload_n dJ4_charAt_5068e_1 1 rfl rfl ?_
  obtain ⟨q1, hq1, hf⟩ := bnd hf
  refine kSU_I (ad := ad) (As := [.int a0]) (st := []) dJ4_charAt_5068e_2 calJ5_charAt_5068e (by decide) wm789 wm1861 wm440 wm790 rfl rfl (rc_40 hr) (Nat.le_of_ble_eq_true rfl) ⟨⟨by decide, by decide⟩, by decide, by decide⟩ (cmJ5_charAt_5068e hr hq1) (fun h hr => ?_)
  obtain ⟨hz2, hf⟩ := grd hf
  replace hf := Option.some.inj hf
  subst hf
  exact rw_zreturn dJ4_charAt_5068e_5 rfl hz2 ⟨rfl, hr⟩ (by decide) (by decide)
