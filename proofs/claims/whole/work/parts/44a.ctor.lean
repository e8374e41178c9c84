/-! CONSTRUCTORS: 'Has L h': the heap picture h holds the cells of L, at addresses of their own. -/
def Has (L : List (Nat × va_E)) (h : rH) : Prop := (L.map (fun p => p.1)).Nodup ∧ ∀ p ∈ L, h p.1 = p.2 ∧ p.2 ≠ rDead
theorem Has.hd {a : Nat} {e : va_E} {T : List (Nat × va_E)} {h : rH} (hh : Has ((a, e) :: T) h) : h a = e := (hh.2 _ List.mem_cons_self).1
theorem Has.perm {L L2 : List (Nat × va_E)} {h : rH} (hh : Has L h) (hp : L.Perm L2) : Has L2 h := ⟨(hp.map _).nodup_iff.mp hh.1, fun p hm => hh.2 p (hp.mem_iff.mpr hm)⟩
theorem Has.mid {N T : List (Nat × va_E)} {x : Nat × va_E} {h : rH} (hh : Has (N ++ x :: T) h) : Has (x :: (N ++ T)) h := hh.perm List.perm_middle
theorem Has.swap {T : List (Nat × va_E)} {x y : Nat × va_E} {h : rH} (hh : Has (x :: y :: T) h) : Has (y :: x :: T) h := hh.perm (List.Perm.swap _ _ _)
theorem Has.new {L : List (Nat × va_E)} {h : rH} {q : Nat} {e : va_E} (hh : Has L h) (hq : h q = rDead) (he : e ≠ rDead) : Has ((q, e) :: L) (hput h q e) := by
  have hn : ∀ p ∈ L, p.1 ≠ q := fun p hp z => (hh.2 p hp).2 (by rw [← (hh.2 p hp).1, z, hq])
  refine ⟨?_, fun p hp => ?_⟩
  · rw [List.map_cons, List.nodup_cons]
    refine ⟨fun z => ?_, hh.1⟩
    obtain ⟨p, hp, z⟩ := List.mem_map.mp z
    exact hn p hp z
  · rcases List.mem_cons.mp hp with rfl | hp
    · exact ⟨va_up_self _ _ _, he⟩
    · exact ⟨(va_up_ne _ _ (hn p hp)).trans (hh.2 p hp).1, (hh.2 p hp).2⟩
theorem Has.put {T : List (Nat × va_E)} {h : rH} {a : Nat} {e e2 : va_E} (hh : Has ((a, e) :: T) h) (he : e2 ≠ rDead) : Has ((a, e2) :: T) (hput h a e2) := by
  have h1 := hh.1
  rw [List.map_cons, List.nodup_cons] at h1
  have hn : ∀ p ∈ T, p.1 ≠ a := fun p hp z => h1.1 (List.mem_map.mpr ⟨p, hp, z⟩)
  refine ⟨by rw [List.map_cons, List.nodup_cons]; exact h1, fun p hp => ?_⟩
  rcases List.mem_cons.mp hp with rfl | hp
  · exact ⟨va_up_self _ _ _, he⟩
  · exact ⟨(va_up_ne _ _ (hn p hp)).trans (hh.2 p (List.mem_cons_of_mem _ hp)).1, (hh.2 p (List.mem_cons_of_mem _ hp)).2⟩
section RwCtor
variable {G : rG} {mi : rMI} {R : Room} {Q : Option Value → rH → Prop} {X : String → rH → Prop} {cells slots pc : Nat} {lv : List (Nat × Value)} {st : List Value} {h : rH} {L T : List (Nat × va_E)}
theorem hx_putF {a idx ci k : Nat} {t : FieldType} {fs fs2 : List Value} {v : Value} (hh : Has ((a, .inr (ci, fs)) :: T) h) (hd : decode mi.2.1 pc = .ok (.putfield idx, 3)) (hf : rFld mi.1.cls idx ci k t true) (hi : mi.1.name = "<init>") (ho : ∃ T : u_T, (∃ q, rCl[ci]? = some q ∧ q.2.1 = T) ∧ (T k).1 = mi.1.cls) (hn : narrow t v = v) (hfit : fits t v = true) (hlen : k < fs.length) (hset : fs.set k v = fs2) (hci : ci < 13)
    (kk : ∀ h, Has ((a, .inr (ci, fs2)) :: T) h → RW G mi R Q X cells slots (pc + 3) lv st h) : RW G mi R Q X cells slots pc lv (v :: .ref a :: st) h := by
  subst hset
  exact rw_putF hd hf hi ho hh.hd hn hfit hlen (kk _ (hh.put (inr_live hci)))
theorem hx_put {a idx ci k : Nat} {t : FieldType} {fs fs2 : List Value} {v : Value} (hh : Has ((a, .inr (ci, fs)) :: T) h) (hd : decode mi.2.1 pc = .ok (.putfield idx, 3)) (hf : rFld mi.1.cls idx ci k t false) (hn : narrow t v = v) (hfit : fits t v = true) (hlen : k < fs.length) (hset : fs.set k v = fs2) (hci : ci < 13)
    (kk : ∀ h, Has ((a, .inr (ci, fs2)) :: T) h → RW G mi R Q X cells slots (pc + 3) lv st h) : RW G mi R Q X cells slots pc lv (v :: .ref a :: st) h := by
  subst hset
  exact rw_put hd hf hh.hd hn hfit hlen (kk _ (hh.put (inr_live hci)))
theorem hx_newarr {atype : ArrayType} {ti : Nat} {ty : FieldType} {n : Int32} {N : Nat} {a0 : vp_A} (hh : Has L h) (hd : decode mi.2.1 pc = .ok (.newarray atype, 2)) (hty : newarray.typeOf atype = ty) (ht : (rTys G)[ti]? = some (G.2.1 ti, ty)) (hw : Cond.arrayClass (newarray.typeOf atype) ∈ rTB) (ha : ∀ cA : ClassId, vp_cell cA a0 = arrV cA N (fun _ => defaultValue ty)) (hn : ¬ n < 0) (hN : n.toNatClampNeg = N) (hbytes : N * componentBytes ty ≤ 536870912) (hcells : cells + 1 ≤ R.cells) (hslots : slots + N ≤ R.slots)
    (kk : ∀ q h, Has ((q, .inl (G.2.1 ti, a0)) :: L) h → RW G mi R Q X (cells + 1) (slots + N) (pc + 2) lv (.ref q :: st) h) : RW G mi R Q X cells slots pc lv (.int n :: st) h :=
  rw_newarray hd hty ht hw ha hn hN hbytes hcells hslots (fun q hq _ => kk q _ (hh.new hq inl_live))
theorem hx_anew {idx ti : Nat} {Cn : String} {n : Int32} {N : Nat} (hh : Has L h) (hd : decode mi.2.1 pc = .ok (.anewarray idx, 3)) (ht : (rTys G)[ti]? = some (G.2.1 ti, .object Cn)) (hw : Cond.classLink mi.1.cls idx Cn ∈ rTB) (hao : Cn = "LayerJoins$Boring" ∨ Cn = "LayerJoins$Place") (hn : ¬ n < 0) (hN : n.toNatClampNeg = N) (hbytes : N * 4 ≤ 536870912) (hcells : cells + 1 ≤ R.cells) (hslots : slots + N ≤ R.slots)
    (kk : ∀ q h, Has ((q, .inl (G.2.1 ti, N, .inr (.inr (.inr (.inr (fun _ => none)))))) :: L) h → RW G mi R Q X (cells + 1) (slots + N) (pc + 3) lv (.ref q :: st) h) : RW G mi R Q X cells slots pc lv (.int n :: st) h :=
  rw_anewarray hd ht hw hao hn hN hbytes hcells hslots (fun q hq _ => kk q _ (hh.new hq inl_live))
theorem hx_new {idx ci : Nat} {Cn : String} {T : u_T} {N : Nat} {ty : Nat → FieldType} {fs : List Value} (hh : Has L h) (hd : decode mi.2.1 pc = .ok (.new idx, 3)) (hC : rCls ci Cn T N ty) (hw1 : Cond.classLink mi.1.cls idx Cn ∈ rTB) (hw2 : Cond.instantiable Cn N ∈ rTB) (hw3 : Cond.initialized Cn ∈ rTB) (hfs : ∀ j, j < N → defaultValue (ty j) = vp_V fs j) (hcells : cells + 1 ≤ R.cells) (hslots : slots + N ≤ R.slots)
    (kk : ∀ q h, Has ((q, .inr (ci, fs)) :: L) h → RW G mi R Q X (cells + 1) (slots + N) (pc + 3) lv (.ref q :: st) h) : RW G mi R Q X cells slots pc lv st h :=
  rw_new hd hC hw1 hw2 hw3 hfs hcells hslots (fun q hq _ => kk q _ (hh.new hq (inr_live hC.1)))
theorem hx_callI {mj : rMI} {R2 : Room} {b idx n : Nat} {As st0 : List Value} {P : rH → Prop} (hd : decode mi.2.1 pc = .ok (.invokespecial idx, 3)) (hcal : rCal mj n) (hret : mj.2.2.2.1 = none) (hni : mj.1.name = "<init>") (hw1 : Cond.methodLink mi.1.cls idx mj.1 ∈ rTB) (hw2 : Cond.instanceMethod mj.1 ∈ rTB)
    (hst : st0 = As.reverse ++ .ref b :: st) (hn : As.length = n) (hsum : (st.map fun v => v.category).sum ≤ 8) (hR : rFit R R2 mj.2.2.1 cells slots)
    (hM : rMT G mj R2 (.ref b :: As) h (fun v h2 => v = none ∧ P h2) xN)
    (kk : ∀ h, P h → RW G mi R Q X (cells + R2.cells) (slots + R2.slots) (pc + 3) lv st h) : RW G mi R Q X cells slots pc lv st0 h :=
  rw_callI hd hcal hret hni hw1 hw2 hst hn hsum hR hM (fun v h2 z => by obtain ⟨rfl, z⟩ := z; exact kk h2 z)
theorem hx_callIN {mj : rMI} {R2 : Room} {b idx n : Nat} {host : String} {As st0 : List Value} {P : rH → Prop} (hd : decode mi.2.1 pc = .ok (.invokespecial idx, 3)) (hcal : rCal mj n) (hret : mj.2.2.2.1 = none) (hni : mj.1.name = "<init>") (hw1 : Cond.methodLinkNest mi.1.cls idx mj.1 host ∈ rNest) (hw2 : Cond.instanceMethod mj.1 ∈ rTB)
    (hst : st0 = As.reverse ++ .ref b :: st) (hn : As.length = n) (hsum : (st.map fun v => v.category).sum ≤ 8) (hR : rFit R R2 mj.2.2.1 cells slots)
    (hM : rMT G mj R2 (.ref b :: As) h (fun v h2 => v = none ∧ P h2) xN)
    (kk : ∀ h, P h → RW G mi R Q X (cells + R2.cells) (slots + R2.slots) (pc + 3) lv st h) : RW G mi R Q X cells slots pc lv st0 h :=
  rw_callIN hd hcal hret hni hw1 hw2 hst hn hsum hR hM (fun v h2 z => by obtain ⟨rfl, z⟩ := z; exact kk h2 z)
end RwCtor
def bcells (G : rG) (a : Nat → Nat) : Nat → List (Nat × va_E)
  | 0 => []
  | k + 1 => (a (80 + 4 * k), .inr (2, [.ref (a (81 + 4 * k)), .ref (a (82 + 4 * k)), .ref (a (83 + 4 * k)), .int 0, .int 0])) :: (a (83 + 4 * k), .inl (G.2.1 0, 12, .inl (fun _ => 0))) :: (a (82 + 4 * k), .inl (G.2.1 0, 12, .inl (fun _ => 0))) :: (a (81 + 4 * k), .inr (7, [.int 0, .int 0])) :: bcells G a k
def fcells (a : Nat → Nat) : Nat → List (Nat × va_E)
  | 0 => []
  | k + 1 => (a (145 + 2 * k), .inr (7, [.int 0, .int 0])) :: (a (144 + 2 * k), .inr (7, [.int 0, .int 0])) :: fcells a k
theorem bcells_congr {G : rG} {a a2 : Nat → Nat} : ∀ k : Nat, (∀ n, n < 80 + 4 * k → a2 n = a n) → bcells G a2 k = bcells G a k
  | 0, _ => rfl
  | k + 1, hn => by
    rw [bcells, bcells, bcells_congr k (fun n z => hn n (by omega)), hn (80 + 4 * k) (by omega), hn (81 + 4 * k) (by omega), hn (82 + 4 * k) (by omega), hn (83 + 4 * k) (by omega)]
theorem fcells_congr {a a2 : Nat → Nat} : ∀ k : Nat, (∀ n, n < 144 + 2 * k → a2 n = a n) → fcells a2 k = fcells a k
  | 0, _ => rfl
  | k + 1, hn => by
    rw [fcells, fcells, fcells_congr k (fun n z => hn n (by omega)), hn (144 + 2 * k) (by omega), hn (145 + 2 * k) (by omega)]
def fB (a : Nat → Nat) (b d k : Nat) : Nat → Option Nat := fun j => if j < k then some (a (b + d * j)) else none
theorem fB_up {a a2 : Nat → Nat} {b d k q : Nat} (h1 : a2 (b + d * k) = q) (h2 : ∀ j, j < k → a2 (b + d * j) = a (b + d * j)) : va_up (fB a b d k) k (some q) = fB a2 b d (k + 1) := by
  funext j
  by_cases hj : j = k
  · subst hj
    rw [va_up_self]
    show _ = if j < j + 1 then _ else _
    rw [if_pos (by omega), h1]
  · rw [va_up_ne _ _ hj]
    show (if j < k then _ else _) = if j < k + 1 then _ else _
    by_cases hk : j < k
    · rw [if_pos hk, if_pos (by omega), h2 j hk]
    · rw [if_neg hk, if_neg (by omega)]
set_option maxHeartbeats 4000000 in
theorem inX7 {G : rG} {b : Nat} {L : List (Nat × va_E)} {h : rH} (hh : Has ((b, .inr (7, [.int 0, .int 0])) :: L) h) : rMT G mX7_init (rm 1 0 0) [.ref b] h (fun v h2 => v = none ∧ Has ((b, .inr (7, [.int 0, .int 0])) :: L) h2) xN := by
  refine rw_met (by decide +kernel) rfl (Nat.le_of_ble_eq_true rfl) ?_
  show RW G _ _ _ _ 0 0 0 [(0, .ref b)] [] h
  refine rw_aload_n dX7_init_0 0 rfl rfl ?_
  refine rw_objInit dX7_init_1 wm120 wm100 wm101 (by decide) (Nat.le_of_ble_eq_true rfl) ?_
  exact rw_return dX7_init_4 rfl ⟨rfl, hh⟩ (by decide) (by decide)
set_option maxHeartbeats 4000000 in
theorem inX1 {G : rG} {b : Nat} {L : List (Nat × va_E)} {h : rH} (hh : Has ((b, .inr (2, [.null, .null, .null, .int 0, .int 0])) :: L) h) : rMT G mX1_init (rm 2 3 26) [.ref b] h (fun v h2 => v = none ∧ ∃ q1 : Nat, ∃ q2 : Nat, ∃ q3 : Nat, Has ((b, .inr (2, [.ref q1, .ref q2, .ref q3, .int 0, .int 0])) :: (q3, .inl (G.2.1 0, 12, .inl (fun _ => 0))) :: (q2, .inl (G.2.1 0, 12, .inl (fun _ => 0))) :: (q1, .inr (7, [.int 0, .int 0])) :: L) h2) xN := by
  refine rw_met (by decide +kernel) rfl (Nat.le_of_ble_eq_true rfl) ?_
  show RW G _ _ _ _ 0 0 0 [(0, .ref b)] [] h
  refine rw_aload_n dX1_init_0 0 rfl rfl ?_
  refine rw_objInit dX1_init_1 wm114 wm100 wm101 (by decide) (Nat.le_of_ble_eq_true rfl) ?_
  refine rw_aload_n dX1_init_4 0 rfl rfl ?_
  refine hx_new (ci := 7) (fs := [.int 0, .int 0]) hh dX1_init_5 clsX7 wm115 wm116 wm65 (fun j hj => match j, hj with | 0, _ => rfl | 1, _ => rfl | j + 2, hj => absurd hj (by omega)) (by decide) (by decide) (fun q1 h hh => ?_)
  refine rw_dup dX1_init_8 rfl ?_
  refine hx_callIN (As := []) (st := [.ref q1, .ref b]) dX1_init_9 calX7_init rfl rfl wm117 wm118 rfl rfl (Nat.le_of_ble_eq_true rfl) ⟨⟨by decide, by decide⟩, by decide, by decide⟩ (inX7 hh) (fun h hh => ?_)
  replace hh := Has.mid (N := (q1, .inr (7, [.int 0, .int 0])) :: []) hh
  refine hx_putF (v := .ref q1) (fs2 := [.ref q1, .null, .null, .int 0, .int 0]) hh dX1_init_12 fl134 rfl ⟨_, ⟨_, rfl, rfl⟩, rfl⟩ rfl rfl (Nat.le_of_ble_eq_true rfl) rfl (by decide) (fun h hh => ?_)
  refine rw_aload_n dX1_init_15 0 rfl rfl ?_
  refine rw_bipush (v := 12) dX1_init_16 (by decide) ?_
  refine hx_newarr (ti := 0) (ty := .int) (N := 12) (a0 := (12, .inl (fun _ => 0))) hh dX1_init_18 rfl rfl wm162 (fun _ => rfl) (by decide) (by decide) (by decide) (by decide) (by decide) (fun q2 h hh => ?_)
  replace hh := hh.swap
  refine hx_putF (v := .ref q2) (fs2 := [.ref q1, .ref q2, .null, .int 0, .int 0]) hh dX1_init_20 fl139 rfl ⟨_, ⟨_, rfl, rfl⟩, rfl⟩ rfl rfl (Nat.le_of_ble_eq_true rfl) rfl (by decide) (fun h hh => ?_)
  refine rw_aload_n dX1_init_23 0 rfl rfl ?_
  refine rw_bipush (v := 12) dX1_init_24 (by decide) ?_
  refine hx_newarr (ti := 0) (ty := .int) (N := 12) (a0 := (12, .inl (fun _ => 0))) hh dX1_init_26 rfl rfl wm162 (fun _ => rfl) (by decide) (by decide) (by decide) (by decide) (by decide) (fun q3 h hh => ?_)
  replace hh := hh.swap
  refine hx_putF (v := .ref q3) (fs2 := [.ref q1, .ref q2, .ref q3, .int 0, .int 0]) hh dX1_init_28 fl142 rfl ⟨_, ⟨_, rfl, rfl⟩, rfl⟩ rfl rfl (Nat.le_of_ble_eq_true rfl) rfl (by decide) (fun h hh => ?_)
  exact rw_return dX1_init_31 rfl ⟨rfl, q1, q2, q3, hh⟩ (by decide) (by decide)
set_option maxHeartbeats 4000000 in
theorem inJ5 {G : rG} {b : Nat} {L : List (Nat × va_E)} {h : rH} (hh : Has ((b, .inr (0, [.null, .int 0, .int 0, .int 0])) :: L) h) : rMT G mJ5_init_d00df (rm 1 1 16) [.ref b, .int 16] h (fun v h2 => v = none ∧ ∃ q1 : Nat, Has ((b, .inr (0, [.ref q1, .int 0, .int 0, .int 0])) :: (q1, .inl (G.2.1 1, 16, .inl (fun _ => 0))) :: L) h2) xN := by
  refine rw_met (by decide +kernel) rfl (Nat.le_of_ble_eq_true rfl) ?_
  show RW G _ _ _ _ 0 0 0 [(0, .ref b), (1, .int 16)] [] h
  refine rw_aload_n dJ5_init_d00df_0 0 rfl rfl ?_
  refine rw_objInit dJ5_init_d00df_1 wm417 wm100 wm101 (by decide) (Nat.le_of_ble_eq_true rfl) ?_
  refine rw_getstatic (v := .int 1) dJ5_init_d00df_4 wm418 (fun s hs => hs.1) ?_
  refine rw_if_eq (tgt := 25) dJ5_init_d00df_7 (by decide) (fun z => absurd z (by decide)) (fun _ => ?_)
  refine rw_aload_n dJ5_init_d00df_10 0 rfl rfl ?_
  refine rw_iload_n dJ5_init_d00df_11 1 rfl rfl ?_
  refine hx_newarr (ti := 1) (ty := .byte) (N := 16) (a0 := (16, .inl (fun _ => 0))) hh dJ5_init_d00df_12 rfl rfl wm441 (fun _ => rfl) (by decide) (by decide) (by decide) (by decide) (by decide) (fun q1 h hh => ?_)
  replace hh := hh.swap
  refine hx_put (v := .ref q1) (fs2 := [.ref q1, .int 0, .int 0, .int 0]) hh dJ5_init_d00df_14 fl427 rfl rfl (Nat.le_of_ble_eq_true rfl) rfl (by decide) (fun h hh => ?_)
  refine rw_aload_n dJ5_init_d00df_17 0 rfl rfl ?_
  refine rw_iconst (v := 0) dJ5_init_d00df_18 (by decide) ?_
  refine hx_put (v := .int 0) (fs2 := [.ref q1, .int 0, .int 0, .int 0]) hh dJ5_init_d00df_19 fl428 (by decide) (by decide) (Nat.le_of_ble_eq_true rfl) rfl (by decide) (fun h hh => ?_)
  refine rw_goto (tgt := 38) dJ5_init_d00df_22 (by decide) ?_
  exact rw_return dJ5_init_d00df_38 rfl ⟨rfl, q1, hh⟩ (by decide) (by decide)
set_option maxHeartbeats 4000000 in
theorem inJ4 {G : rG} {b : Nat} {L : List (Nat × va_E)} {h : rH} (hh : Has ((b, .inr (0, [.null, .int 0, .int 0, .int 0])) :: L) h) : rMT G mJ4_init_da8c8 (rm 2 1 16) [.ref b] h (fun v h2 => v = none ∧ ∃ q1 : Nat, Has ((b, .inr (0, [.ref q1, .int 0, .int 0, .int 0])) :: (q1, .inl (G.2.1 1, 16, .inl (fun _ => 0))) :: L) h2) xN := by
  refine rw_met (by decide +kernel) rfl (Nat.le_of_ble_eq_true rfl) ?_
  show RW G _ _ _ _ 0 0 0 [(0, .ref b)] [] h
  refine rw_aload_n dJ4_init_da8c8_0 0 rfl rfl ?_
  refine rw_bipush (v := 16) dJ4_init_da8c8_1 (by decide) ?_
  refine hx_callI (As := [.int 16]) (st := []) dJ4_init_da8c8_3 calJ5_init_d00df rfl rfl wm414 wm415 rfl rfl (Nat.le_of_ble_eq_true rfl) ⟨⟨by decide, by decide⟩, by decide, by decide⟩ (inJ5 hh) (fun h hh => ?_)
  obtain ⟨q1, hh⟩ := hh
  exact rw_return dJ4_init_da8c8_6 rfl ⟨rfl, q1, hh⟩ (by decide) (by decide)
