/-! making arrays, statics, calls, throws -/
theorem rKW.array {G : rG} {s : State} (h : va_K G.1 rCl (rTys G) s) {ti : Nat} {ty : FieldType} (ht : (rTys G)[ti]? = some (G.2.1 ti, ty)) {tys2 : List (ClassId × FieldType)} {cA : ClassId} (h2 : va_K G.1 rCl (tys2 ++ [(cA, ty)]) s) : cA = G.2.1 ti := by
  have a1 := (h.2 ti _ ht).2
  have a2 := (h2.2 tys2.length (cA, ty) (by simp)).2
  cases ty with
  | object C =>
    obtain ⟨_, _, _, _, _, e1⟩ := a1
    obtain ⟨_, _, _, _, _, e2⟩ := a2
    exact Option.some.inj (e2.symm.trans e1)
  | _ =>
    exact Option.some.inj (Eq.trans (Eq.symm a2) a1)
section RwMake
variable {G : rG} {mi : rMI} {R : Room} {Q : Option Value → rH → Prop} {X : String → rH → Prop} {cells slots pc : Nat} {lv : List (Nat × Value)} {st : List Value} {h : rH}
theorem rw_newarray {atype : ArrayType} {ti : Nat} {ty : FieldType} {n : Int32} {N : Nat} {a0 : vp_A} (hd : decode mi.2.1 pc = .ok (.newarray atype, 2)) (hty : newarray.typeOf atype = ty) (ht : (rTys G)[ti]? = some (G.2.1 ti, ty)) (hw : Cond.arrayClass (newarray.typeOf atype) ∈ rTB) (ha : ∀ cA : ClassId, vp_cell cA a0 = arrV cA N (fun _ => defaultValue ty)) (hn : ¬ n < 0) (hN : n.toNatClampNeg = N) (hbytes : N * componentBytes ty ≤ 536870912) (hcells : cells + 1 ≤ R.cells) (hslots : slots + N ≤ R.slots)
    (kk : ∀ q : Nat, h q = rDead → rA G q → RW G mi R Q X (cells + 1) (slots + N) (pc + 2) lv (.ref q :: st) (hput h q (.inl (G.2.1 ti, a0)))) : RW G mi R Q X cells slots pc lv (.int n :: st) h := fun p l e s m args below meth c H locs ls C hl hH hS => by
  obtain ⟨LP, h1, hP, hD⟩ := hH
  exact va_newa (D := G.1) (cl := rCl) (tys := rTys G) C.1 C.2.1 (C.2.2.2.2.2.1 _ hw) hty C.2.2.2.2.2.2.2.2.2.2.1 hP hD hS (fun q z => Nat.le_trans C.2.2.2.2.2.2.2.2.2.2.2.2.2.2.2.2.1 z) ha hn hN hbytes hcells hslots hd
    (fun q cA H1 hK1 hP1 hD1 hS1 => by
      cases rKW.array C.2.2.2.2.2.2.2.2.2.2.1 ht hK1
      obtain ⟨g1, g2⟩ := rHR.new h1 inl_live hP1 hD1
      exact kk q g2 (hD1.2 (va_pl LP h).length (q, .inl (G.2.1 ti, a0)) (by simp)) p l e s m args below meth c H1 locs ls C hl g1 hS1)
theorem rw_anewarray {idx ti : Nat} {Cn : String} {n : Int32} {N : Nat} (hd : decode mi.2.1 pc = .ok (.anewarray idx, 3)) (ht : (rTys G)[ti]? = some (G.2.1 ti, .object Cn)) (hw : Cond.classLink mi.1.cls idx Cn ∈ rTB) (hao : Cn = "LayerJoins$Boring" ∨ Cn = "LayerJoins$Place") (hn : ¬ n < 0) (hN : n.toNatClampNeg = N) (hbytes : N * 4 ≤ 536870912) (hcells : cells + 1 ≤ R.cells) (hslots : slots + N ≤ R.slots)
    (kk : ∀ q : Nat, h q = rDead → rA G q → RW G mi R Q X (cells + 1) (slots + N) (pc + 3) lv (.ref q :: st) (hput h q (.inl (G.2.1 ti, N, .inr (.inr (.inr (.inr (fun _ => none)))))))) : RW G mi R Q X cells slots pc lv (.int n :: st) h := fun p l e s m args below meth c H locs ls C hl hH hS => by
  obtain ⟨LP, h1, hP, hD⟩ := hH
  have hAO : va_AO Cn s := by
    rcases hao with rfl | rfl
    · exact C.2.2.2.2.2.2.2.2.2.2.2.2.2.2.1.1
    · exact C.2.2.2.2.2.2.2.2.2.2.2.2.2.2.1.2
  exact va_newq (D := G.1) (cl := rCl) (tys := rTys G) C.1 C.2.1 C.2.2.2.2.1 (C.2.2.2.2.2.1 _ hw) hAO C.2.2.2.2.2.2.2.2.2.2.1 hP hD hS (fun q z => Nat.le_trans C.2.2.2.2.2.2.2.2.2.2.2.2.2.2.2.2.1 z) hn hN hbytes hcells hslots hd
    (fun q cA H1 hK1 hP1 hD1 hS1 => by
      cases rKW.array C.2.2.2.2.2.2.2.2.2.2.1 ht hK1
      obtain ⟨g1, g2⟩ := rHR.new h1 inl_live hP1 hD1
      exact kk q g2 (hD1.2 (va_pl LP h).length (q, .inl (G.2.1 ti, N, .inr (.inr (.inr (.inr (fun _ => none)))))) (by simp)) p l e s m args below meth c H1 locs ls C hl g1 hS1)
theorem rw_getstatic {idx : Nat} {Cn n d : String} {v : Value} (hd : decode mi.2.1 pc = .ok (.getstatic idx, 3)) (hw : Cond.fieldLink mi.1.cls idx Cn n d ∈ rTB) (hZ : ∀ s : State, rST G s s.heap → va_Z Cn n d v (rA G) s s.heap)
    (kk : RW G mi R Q X cells slots (pc + 3) lv (v :: st) h) : RW G mi R Q X cells slots pc lv st h := fun p l e s m args below meth c H locs ls C hl hH hS =>
  va_gets C.1 C.2.1 (hZ s C.2.2.2.2.2.2.2.2.2.2.2.2.2.2.2.1) hS C.2.2.2.2.1 (C.2.2.2.2.2.1 _ hw) (fun _ z => z) hd (kk p l e s m args below meth c H locs ls C hl hH hS)
/-- the frame, with an object of class E thrown over it -/
def RX (G : rG) (mi : rMI) (R : Room) (Q : Option Value → rH → Prop) (X : String → rH → Prop) (cells slots pc : Nat) (lv : List (Nat × Value)) (st : List Value) (h : rH) (E : String) : Prop :=
  ∀ (p : Program) (l : Launch) (e : Env) (s : State) (m : MethodId) (args : Array Value) (below : List Frame) (meth : Method) (c : Code) (H : Heap) (locs : List Loc) (ls : Array Slot) (q : Addr) (ce : Cell),
    rCT G mi p l s m args meth c → lv_has ls mi.2.2.1 lv → rHR G h H → va_S (rA G) s.heap H locs → H[q]? = some ce → ce.vm = .none → s.vm.findClass E = some ce.cls →
    vx_W p l e R s m args below meth c H locs cells slots (vx_MQ below (rQ G Q) (rX G X) args s R.cells R.slots (rA G)) (F0 m pc ls st) q
theorem rx_out {E : String} (hh : mi.2.2.2.2 = []) (hx : X E h) (hc : cells ≤ R.cells) (hs : slots ≤ R.slots) : RX G mi R Q X cells slots pc lv st h E := fun p l e s m args below meth c H locs ls q ce C hl hH hS h1 h2 h3 =>
  vx_out (fun x hx => by rw [C.2.2.2.2.2.2.2.2.1, hh] at hx; cases hx) C.2.2.2.2.2.2.1 h1 h2 h3 (fun t ht _ => ⟨⟨h, hx, by rw [ht]; exact hH⟩, hS.F ht⟩) hS.2.2 hc hs
theorem rx_catch {E name : String} (ps : List (Nat × Nat × Nat × Nat)) (r : Nat × Nat × Nat × Nat) (rs : List (Nat × Nat × Nat × Nat)) (hsp : mi.2.2.2.2 = ps ++ r :: rs) (hE : name = E) (hEc : E ∈ rCasts)
    (hpass : ∀ z ∈ ps, covers (⟨z.1, z.2.1, z.2.2.1, z.2.2.2⟩ : ExceptionTableEntry) pc = false ∨ (z.2.2.2 ≠ 0 ∧ ∃ nm : String, Cond.classLink mi.1.cls z.2.2.2 nm ∈ rTB ∧ (E, nm) ∈ rNcs)) (hr : covers (⟨r.1, r.2.1, r.2.2.1, r.2.2.2⟩ : ExceptionTableEntry) pc = true) (h0 : r.2.2.2 ≠ 0) (hlink : Cond.classLink mi.1.cls r.2.2.2 name ∈ rTB)
    (kk : ∀ q : Nat, RW G mi R Q X cells slots r.2.2.1 lv [.ref q] h) : RX G mi R Q X cells slots pc lv st h E := fun p l e s m args below meth c H locs ls q ce C hl hH hS h1 h2 h3 => by
  subst hE
  have hK := C.2.2.2.2.2.2.2.2.2.2
  refine cx_catch C.2.2.2.2.1 (tableOf ps) ⟨r.1, r.2.1, r.2.2.1, r.2.2.2⟩ (tableOf rs) (by rw [C.2.2.2.2.2.2.2.2.1, hsp]; simp [tableOf]) (fun z hz => ?_) hr h0 (C.2.2.2.2.2.1 _ hlink) (hK.cast hEc) h1 h2 h3 (kk q p l e s m args below meth c H locs ls C hl hH hS)
  obtain ⟨y, hy, rfl⟩ := List.mem_map.mp hz
  rcases hpass y hy with g | ⟨g0, nm, g1, g2⟩
  · exact Or.inl g
  · exact Or.inr ⟨g0, nm, C.2.2.2.2.2.1 _ g1, hK.2.2.2.1 _ g2⟩
theorem rMT.met {l : Launch} {mj : rMI} {R2 : Room} {av : List Value} {Q2 : Option Value → rH → Prop} (hM : rMT G mj R2 av h Q2 (fun _ _ => False)) (hl : l.stackTraces = false) : Met l mj.1 (rWs mj) R2 (rP G av h) (rQ G Q2) R2.cells R2.slots (rA G) := by
  intro p e ha hc hk s m args below hf happ hP hT
  obtain ⟨k, o, h1, h2, h3, hq⟩ := hM l hl p e ha hc hk s m args below hf happ hP hT
  refine ⟨k, o, h1, h2, h3, ?_⟩
  rcases hq with hq | ⟨q, _, E, ce, L, ⟨⟨h9, hx, _⟩, _⟩, _⟩
  · exact hq
  · exact hx.elim
section RunRow
variable {p : Program} {l : Launch} {e : Env} {s : State} {m : MethodId} {args : Array Value} {below : List Frame} {meth : Method} {c : Code} {H : Heap} {locs : List Loc} {ls : Array Slot} {mc ms : Nat} {st0 : List Value} {a : Array Value} {Q2 : Option Value → rH → Prop} {X2 : String → rH → Prop} {Z : State → Prop}
theorem rw_run (hr : vx_Run p l e R s m args below meth c H locs cells slots mc ms (F0 m pc ls st0) st (rQ G Q2 a) (rX G X2) (rA G)) (hS : va_S (rA G) s.heap H locs)
    (kx : ∀ (E : String) (h2 : rH) (H1 : Heap) (locs1 : List Loc) (q : Addr) (ce : Cell), X2 E h2 → rHR G h2 H1 → va_S (rA G) s.heap H1 locs1 → H1[q]? = some ce → ce.vm = .none → s.vm.findClass E = some ce.cls → vx_W p l e R s m args below meth c H1 locs1 (cells + mc) (slots + ms) Z (F0 m pc ls st) q)
    (kk : ∀ (v : Option Value) (h2 : rH) (H1 : Heap) (locs1 : List Loc), Q2 v h2 → rHR G h2 H1 → va_S (rA G) s.heap H1 locs1 → W p l e R s m args below meth c H1 locs1 (cells + mc) (slots + ms) Z (F0 m (pc + 3) ls (v.toList ++ st))) : W p l e R s m args below meth c H locs cells slots Z (F0 m pc ls st0) := by
  intro T hT X
  rcases hr T hT X with ⟨v, st₀, t, T', L, h0, X', hL, e1, e2, ⟨⟨v2, h2, hv, hp, hb⟩, hF⟩, st9⟩ | ⟨q, st₀, t, T', L, E, ce, h0, X', hL, e1, e2, ⟨⟨h2, hp, hb⟩, hF⟩, hce, hcv, hcl, st9⟩
  · cases hv
    obtain ⟨_, _, k3⟩ := vx_keep h0 e1 hS (fun q _ z => z) (fun q z => z) hL hF
    obtain ⟨t2, a1, b1⟩ := kk v h2 T'.heap (locs ++ L) hp (by rw [e1]; exact hb) k3 T' rfl X'
    exact ⟨t2, st9 t2 a1, b1⟩
  · obtain ⟨_, _, k3⟩ := vx_keep h0 e1 hS (fun q _ z => z) (fun q z => z) hL hF
    obtain ⟨t2, a1, b1⟩ := kx E h2 T'.heap (locs ++ L) q ce hp (by rw [e1]; exact hb) k3 (by rw [e1]; exact hce) hcv hcl T' rfl X'
    exact ⟨t2, st9.trans a1, b1⟩
theorem rw_run5 (hr : va_Run5 p l e R s m args below meth c H locs cells slots mc ms (F0 m pc ls st0) st (rQ G Q2 a) (rA G)) (hS : va_S (rA G) s.heap H locs)
    (kk : ∀ (v : Option Value) (h2 : rH) (H1 : Heap) (locs1 : List Loc), Q2 v h2 → rHR G h2 H1 → va_S (rA G) s.heap H1 locs1 → W p l e R s m args below meth c H1 locs1 (cells + mc) (slots + ms) Z (F0 m (pc + 5) ls (v.toList ++ st))) : W p l e R s m args below meth c H locs cells slots Z (F0 m pc ls st0) := by
  intro T hT X
  obtain ⟨v, st₀, t, T', L, h0, X', hL, e1, e2, ⟨⟨v2, h2, hv, hp, hb⟩, hF⟩, st9⟩ := hr T hT X
  cases hv
  obtain ⟨_, _, k3⟩ := vx_keep h0 e1 hS (fun q _ z => z) (fun q z => z) hL hF
  obtain ⟨t2, a1, b1⟩ := kk v h2 T'.heap (locs ++ L) hp (by rw [e1]; exact hb) k3 T' rfl X'
  exact ⟨t2, st9 t2 a1, b1⟩
theorem rw_vx {g : JFrame} {Qa : State → Outcome → State → Prop} {XC : String → State → State → Prop} {free : Addr → Prop} (hr : va_Run p l e R s m args below meth c H locs cells slots mc ms g st Qa free) : vx_Run p l e R s m args below meth c H locs cells slots mc ms g st Qa XC free := fun T hT X => Or.inl (hr T hT X)
theorem rP.at {av : List Value} {U : State} (C : rCT G mi p l s m args meth c) (hH : rHR G h H) (hS : va_S (rA G) s.heap H locs) (hU : U.heap = H) (hW : s.WarmedH U.vm) : rP G av h av.toArray U := ⟨rfl, by rw [hU]; exact hH, C.2.2.2.2.2.2.2.2.2.2.next hS.2.1 hS.1 hU hW⟩
theorem rP.recv {b ci : Nat} {fs : List Value} {q : vw_C} (C : rCT G mi p l s m args meth c) (hH : rHR G h H) (hc : h b = .inr (ci, fs)) (hci : ci < 13) (hq : rCl[ci]? = some q) : ∃ cellB : Cell, H[b]? = some cellB ∧ cellB.vm.isStatics = false ∧ s.vm.findClass q.1 = some cellB.cls := by
  obtain ⟨LP, q0, h1, hP, hD, ha, hk⟩ := hH.live (a := b) (by rw [hc]; exact inr_live hci)
  rw [hc] at hk
  exact va_recv C.2.2.2.2.2.2.2.2.2.2.1 hP hq hk
end RunRow
theorem good_in {ws : List Cond} (hw : ∀ w ∈ ws, w ∈ rTB) : GoodIn rTB ws := fun w z => ⟨hw w z, good_of_word (List.mem_filter.mp (hw w z)).2⟩
theorem rWs.code {mj : rMI} (hh : mj.2.2.2.2 = []) : rWs mj = Cond.code mj.1 mj.2.1 mj.2.2.1 mj.2.2.2.1 :: rTB := by unfold rWs rWord; rw [hh]
theorem rWs.in {mj : rMI} (hw : rWord mj ∈ rTB) : ∀ w ∈ rWs mj, w ∈ rTB := fun w z => (List.mem_cons.mp z).elim (fun e => by rw [e]; exact hw) id
/-- what a call asks of the callee, apart from its contract -/
def rCal (mj : rMI) (n : Nat) : Prop := mj.2.2.2.2 = [] ∧ rWord mj ∈ rTB ∧ (mj.1.cls ≠ "java/lang/invoke/MethodHandle" ∧ mj.1.cls ≠ "java/lang/invoke/VarHandle" ∧ (parseMethodDescriptor mj.1.desc).map (fun d => d.parameters.length) = some n) ∧ Cond.initialized mj.1.cls ∈ rTB
def rFit (R R2 : Room) (maxL cells slots : Nat) : Prop := (R2.frames + 1 ≤ R.frames ∧ 8 + (maxL + 11) + R2.locals ≤ R.locals) ∧ cells + R2.cells ≤ R.cells ∧ slots + R2.slots ≤ R.slots
theorem rw_callV {mj : rMI} {R2 : Room} {b idx n ci : Nat} {q : vw_C} {fs As st0 : List Value} {Q2 : Option Value → rH → Prop} {X2 : String → rH → Prop} (hd : decode mi.2.1 pc = .ok (.invokevirtual idx, 3)) (hcal : rCal mj n) (hw1 : Cond.methodLink mi.1.cls idx mj.1 ∈ rTB) (hw2 : Cond.instanceMethod mj.1 ∈ rTB) (hw3 : Cond.selects mj.1.cls mj.1 mj.1 ∈ rTB)
    (hst : st0 = As.reverse ++ .ref b :: st) (hn : As.length = n) (hc : h b = .inr (ci, fs)) (hci : ci < 13) (hq : rCl[ci]? = some q) (hqn : q.1 = mj.1.cls) (hsum : (st.map fun v => v.category).sum ≤ 8) (hR : rFit R R2 mj.2.2.1 cells slots)
    (hM : rMT G mj R2 (.ref b :: As) h Q2 X2) (kx : ∀ (E : String) (h2 : rH), X2 E h2 → RX G mi R Q X (cells + R2.cells) (slots + R2.slots) pc lv st h2 E)
    (kk : ∀ (v : Option Value) (h2 : rH), Q2 v h2 → RW G mi R Q X (cells + R2.cells) (slots + R2.slots) (pc + 3) lv (v.toList ++ st) h2) : RW G mi R Q X cells slots pc lv st0 h := fun p l e s m args below meth c H locs ls C hl hH hS => by
  have hrecv := rP.recv C hH hc hci hq
  rw [hqn] at hrecv
  have hr := vx_runV (l := l) (below := below) (meth := meth) (e := e) (locs := locs) (cells := cells) (slots := slots) (rest := st) (As := As) (g := F0 m pc ls st0) (R := R) (n := n) (C := mj.1.cls) (index := idx) (bytes := mj.2.1) (maxL := mj.2.2.1) (ret := mj.2.2.2.1) ⟨C.1, C.2.1, C.2.2.2.1, C.2.2.2.2.1, C.2.2.2.2.2.1⟩ (hM l C.2.2.2.2.2.2.2.2.2.1)
    (cwV n C.2.2.2.2.2.1 (good_in (fun w z => by
      rcases List.mem_append.mp z with z | z
      · simp only [List.mem_cons, List.not_mem_nil, or_false] at z
        rcases z with rfl | rfl | rfl | rfl
        · exact hw1
        · exact hw2
        · exact hw3
        · exact hcal.2.2.2
      · exact rWs.in hcal.2.1 w z)) (rWs.code hcal.1) rfl rfl ⟨rfl, hcal.2.2.1⟩ hR.1)
    ⟨rP.blind, hrecv, fun U hU hW => rP.at C hH hS hU hW⟩ rfl hn hl.1 hst (lv_room hsum) hd hR.2
  exact rw_run hr hS (fun E h2 H1 locs1 q9 ce z1 z2 z3 z4 z5 z6 => kx E h2 z1 p l e s m args below meth c H1 locs1 ls q9 ce C hl z2 z3 z4 z5 z6) (fun v h2 H1 locs1 z1 z2 z3 => kk v h2 z1 p l e s m args below meth c H1 locs1 ls C hl z2 z3)
theorem rw_callS {mj : rMI} {R2 : Room} {idx n : Nat} {As st0 : List Value} {Q2 : Option Value → rH → Prop} {X2 : String → rH → Prop} (hd : decode mi.2.1 pc = .ok (.invokestatic idx, 3)) (hcal : rCal mj n) (hw1 : Cond.methodLink mi.1.cls idx mj.1 ∈ rTB) (hw2 : Cond.static mj.1 ∈ rTB)
    (hst : st0 = As.reverse ++ st) (hn : As.length = n) (hsum : (st.map fun v => v.category).sum ≤ 8) (hR : rFit R R2 mj.2.2.1 cells slots)
    (hM : rMT G mj R2 As h Q2 X2) (kx : ∀ (E : String) (h2 : rH), X2 E h2 → RX G mi R Q X (cells + R2.cells) (slots + R2.slots) pc lv st h2 E)
    (kk : ∀ (v : Option Value) (h2 : rH), Q2 v h2 → RW G mi R Q X (cells + R2.cells) (slots + R2.slots) (pc + 3) lv (v.toList ++ st) h2) : RW G mi R Q X cells slots pc lv st0 h := fun p l e s m args below meth c H locs ls C hl hH hS => by
  have hr := vx_runS (l := l) (below := below) (meth := meth) (e := e) (locs := locs) (cells := cells) (slots := slots) (rest := st) (As := As) (g := F0 m pc ls st0) (R := R) (n := n) (index := idx) (bytes := mj.2.1) (maxL := mj.2.2.1) (ret := mj.2.2.2.1) ⟨C.1, C.2.1, C.2.2.2.1, C.2.2.2.2.1, C.2.2.2.2.2.1⟩ (hM l C.2.2.2.2.2.2.2.2.2.1)
    (va_cwS n C.2.2.2.2.2.1 (good_in (fun w z => by
      rcases List.mem_append.mp z with z | z
      · simp only [List.mem_cons, List.not_mem_nil, or_false] at z
        rcases z with rfl | rfl | rfl
        · exact hw1
        · exact hw2
        · exact hcal.2.2.2
      · exact rWs.in hcal.2.1 w z)) (rWs.code hcal.1) rfl rfl hcal.2.2.1 hR.1)
    ⟨rP.blind, fun U hU hW => rP.at C hH hS hU hW⟩ rfl hn hl.1 hst (lv_room hsum) hd hR.2
  exact rw_run hr hS (fun E h2 H1 locs1 q9 ce z1 z2 z3 z4 z5 z6 => kx E h2 z1 p l e s m args below meth c H1 locs1 ls q9 ce C hl z2 z3 z4 z5 z6) (fun v h2 H1 locs1 z1 z2 z3 => kk v h2 z1 p l e s m args below meth c H1 locs1 ls C hl z2 z3)
def rCalW (mj : rMI) (n : Nat) : Prop := mj.2.2.2.2 ≠ [] ∧ rWord mj ∈ rTB ∧ (mj.1.cls ≠ "java/lang/invoke/MethodHandle" ∧ mj.1.cls ≠ "java/lang/invoke/VarHandle" ∧ (parseMethodDescriptor mj.1.desc).map (fun d => d.parameters.length) = some n) ∧ Cond.initialized mj.1.cls ∈ rTB
theorem rWs.codeW {mj : rMI} (hh : mj.2.2.2.2 ≠ []) : rWs mj = Cond.codeWith mj.1 mj.2.1 mj.2.2.1 mj.2.2.2.1 mj.2.2.2.2 :: rTB := by
  unfold rWs rWord
  split
  · exact absurd (by assumption) hh
  · rfl
theorem rw_callW {mj : rMI} {R2 : Room} {idx n : Nat} {As st0 : List Value} {Q2 : Option Value → rH → Prop} {X2 : String → rH → Prop} (hd : decode mi.2.1 pc = .ok (.invokestatic idx, 3)) (hcal : rCalW mj n) (hw1 : Cond.methodLink mi.1.cls idx mj.1 ∈ rTB) (hw2 : Cond.static mj.1 ∈ rTB)
    (hst : st0 = As.reverse ++ st) (hn : As.length = n) (hsum : (st.map fun v => v.category).sum ≤ 8) (hR : rFit R R2 mj.2.2.1 cells slots)
    (hM : rMT G mj R2 As h Q2 X2) (kx : ∀ (E : String) (h2 : rH), X2 E h2 → RX G mi R Q X (cells + R2.cells) (slots + R2.slots) pc lv st h2 E)
    (kk : ∀ (v : Option Value) (h2 : rH), Q2 v h2 → RW G mi R Q X (cells + R2.cells) (slots + R2.slots) (pc + 3) lv (v.toList ++ st) h2) : RW G mi R Q X cells slots pc lv st0 h := fun p l e s m args below meth c H locs ls C hl hH hS => by
  have hr := vx_runSX (l := l) (below := below) (meth := meth) (e := e) (locs := locs) (cells := cells) (slots := slots) (rest := st) (As := As) (g := F0 m pc ls st0) (R := R) (n := n) (index := idx) (bytes := mj.2.1) (maxL := mj.2.2.1) (ret := mj.2.2.2.1) (hh := mj.2.2.2.2) ⟨C.1, C.2.1, C.2.2.2.1, C.2.2.2.2.1, C.2.2.2.2.2.1⟩ (hM l C.2.2.2.2.2.2.2.2.2.1)
    (vx_cwSW n C.2.2.2.2.2.1 (good_in (fun w z => by
      rcases List.mem_append.mp z with z | z
      · simp only [List.mem_cons, List.not_mem_nil, or_false] at z
        rcases z with rfl | rfl | rfl
        · exact hw1
        · exact hw2
        · exact hcal.2.2.2
      · exact rWs.in hcal.2.1 w z)) (rWs.codeW hcal.1) rfl rfl hcal.2.2.1 hR.1)
    ⟨rP.blind, fun U hU hW => rP.at C hH hS hU hW⟩ rfl hn hl.1 hst (lv_room hsum) hd hR.2
  exact rw_run hr hS (fun E h2 H1 locs1 q9 ce z1 z2 z3 z4 z5 z6 => kx E h2 z1 p l e s m args below meth c H1 locs1 ls q9 ce C hl z2 z3 z4 z5 z6) (fun v h2 H1 locs1 z1 z2 z3 => kk v h2 z1 p l e s m args below meth c H1 locs1 ls C hl z2 z3)
theorem rw_callI {mj : rMI} {R2 : Room} {b idx n : Nat} {As st0 : List Value} {Q2 : Option Value → rH → Prop} (hd : decode mi.2.1 pc = .ok (.invokespecial idx, 3)) (hcal : rCal mj n) (hret : mj.2.2.2.1 = none) (hni : mj.1.name = "<init>") (hw1 : Cond.methodLink mi.1.cls idx mj.1 ∈ rTB) (hw2 : Cond.instanceMethod mj.1 ∈ rTB)
    (hst : st0 = As.reverse ++ .ref b :: st) (hn : As.length = n) (hsum : (st.map fun v => v.category).sum ≤ 8) (hR : rFit R R2 mj.2.2.1 cells slots)
    (hM : rMT G mj R2 (.ref b :: As) h Q2 (fun _ _ => False))
    (kk : ∀ (v : Option Value) (h2 : rH), Q2 v h2 → RW G mi R Q X (cells + R2.cells) (slots + R2.slots) (pc + 3) lv (v.toList ++ st) h2) : RW G mi R Q X cells slots pc lv st0 h := fun p l e s m args below meth c H locs ls C hl hH hS => by
  have hr := va_runI (l := l) (below := below) (meth := meth) (e := e) (locs := locs) (cells := cells) (slots := slots) (rest := st) (As := As) (b := b) (g := F0 m pc ls st0) (R := R) (n := n) (index := idx) (bytes := mj.2.1) (maxL := mj.2.2.1) ⟨C.1, C.2.1, C.2.2.2.1, C.2.2.2.2.1, C.2.2.2.2.2.1⟩ (rMT.met hM C.2.2.2.2.2.2.2.2.2.1)
    (cwI n C.2.2.2.2.2.1 (good_in (rWs.in hcal.2.1)) (by rw [rWs.code hcal.1, hret]) rfl rfl (C.2.2.2.2.2.1 _ hcal.2.2.2) (C.2.2.2.2.2.1 _ hw1) (C.2.2.2.2.2.1 _ hw2) hni hcal.2.2.1 hR.1)
    ⟨rP.blind, fun U hU hW => rP.at C hH hS hU hW⟩ rfl hn hl.1 hst (lv_room hsum) hd hR.2
  exact rw_run (X2 := fun _ _ => False) (rw_vx hr) hS (fun E h2 H1 locs1 q9 ce z1 => z1.elim) (fun v h2 H1 locs1 z1 z2 z3 => kk v h2 z1 p l e s m args below meth c H1 locs1 ls C hl z2 z3)
/-- nest mates: a private constructor, a private static method -/
theorem rw_callIN {mj : rMI} {R2 : Room} {b idx n : Nat} {host : String} {As st0 : List Value} {Q2 : Option Value → rH → Prop} (hd : decode mi.2.1 pc = .ok (.invokespecial idx, 3)) (hcal : rCal mj n) (hret : mj.2.2.2.1 = none) (hni : mj.1.name = "<init>") (hw1 : Cond.methodLinkNest mi.1.cls idx mj.1 host ∈ rNest) (hw2 : Cond.instanceMethod mj.1 ∈ rTB)
    (hst : st0 = As.reverse ++ .ref b :: st) (hn : As.length = n) (hsum : (st.map fun v => v.category).sum ≤ 8) (hR : rFit R R2 mj.2.2.1 cells slots)
    (hM : rMT G mj R2 (.ref b :: As) h Q2 (fun _ _ => False))
    (kk : ∀ (v : Option Value) (h2 : rH), Q2 v h2 → RW G mi R Q X (cells + R2.cells) (slots + R2.slots) (pc + 3) lv (v.toList ++ st) h2) : RW G mi R Q X cells slots pc lv st0 h := fun p l e s m args below meth c H locs ls C hl hH hS => by
  have hK := C.2.2.2.2.2.2.2.2.2.2
  have hr := va_runIN (l := l) (below := below) (meth := meth) (e := e) (locs := locs) (cells := cells) (slots := slots) (rest := st) (As := As) (b := b) (g := F0 m pc ls st0) (R := R) (n := n) (index := idx) (bytes := mj.2.1) (maxL := mj.2.2.1) ⟨C.1, C.2.1, C.2.2.2.1, C.2.2.2.2.1, C.2.2.2.2.2.1⟩ (rMT.met hM C.2.2.2.2.2.2.2.2.2.1)
    ⟨va_cnB (host := host) n C.2.2.2.2.2.1 (good_in (rWs.in hcal.2.1)) (by rw [rWs.code hcal.1, hret]) rfl rfl (hK.2.1 _ hw1) (C.2.2.2.2.2.1 _ hcal.2.2.2) hcal.2.2.1 hR.1, hni, C.2.2.2.2.2.1 _ hw2⟩
    ⟨rP.blind, fun U hU hW => rP.at C hH hS hU hW⟩ rfl hn hl.1 hst (lv_room hsum) hd hR.2
  exact rw_run (X2 := fun _ _ => False) (rw_vx hr) hS (fun E h2 H1 locs1 q9 ce z1 => z1.elim) (fun v h2 H1 locs1 z1 z2 z3 => kk v h2 z1 p l e s m args below meth c H1 locs1 ls C hl z2 z3)
theorem rw_callSN {mj : rMI} {R2 : Room} {idx n : Nat} {host : String} {As st0 : List Value} {Q2 : Option Value → rH → Prop} (hd : decode mi.2.1 pc = .ok (.invokestatic idx, 3)) (hcal : rCal mj n) (hw1 : Cond.methodLinkNest mi.1.cls idx mj.1 host ∈ rNest) (hw2 : Cond.static mj.1 ∈ rTB)
    (hst : st0 = As.reverse ++ st) (hn : As.length = n) (hsum : (st.map fun v => v.category).sum ≤ 8) (hR : rFit R R2 mj.2.2.1 cells slots)
    (hM : rMT G mj R2 As h Q2 (fun _ _ => False))
    (kk : ∀ (v : Option Value) (h2 : rH), Q2 v h2 → RW G mi R Q X (cells + R2.cells) (slots + R2.slots) (pc + 3) lv (v.toList ++ st) h2) : RW G mi R Q X cells slots pc lv st0 h := fun p l e s m args below meth c H locs ls C hl hH hS => by
  have hK := C.2.2.2.2.2.2.2.2.2.2
  have hr := va_runSN (l := l) (below := below) (meth := meth) (e := e) (locs := locs) (cells := cells) (slots := slots) (rest := st) (As := As) (g := F0 m pc ls st0) (R := R) (n := n) (index := idx) (bytes := mj.2.1) (maxL := mj.2.2.1) (ret := mj.2.2.2.1) ⟨C.1, C.2.1, C.2.2.2.1, C.2.2.2.2.1, C.2.2.2.2.2.1⟩ (rMT.met hM C.2.2.2.2.2.2.2.2.2.1)
    ⟨va_cnB (host := host) n C.2.2.2.2.2.1 (good_in (rWs.in hcal.2.1)) (rWs.code hcal.1) rfl rfl (hK.2.1 _ hw1) (C.2.2.2.2.2.1 _ hcal.2.2.2) hcal.2.2.1 hR.1, C.2.2.2.2.2.1 _ hw2, trivial⟩
    ⟨rP.blind, fun U hU hW => rP.at C hH hS hU hW⟩ rfl hn hl.1 hst (lv_room hsum) hd hR.2
  exact rw_run (X2 := fun _ _ => False) (rw_vx hr) hS (fun E h2 H1 locs1 q9 ce z1 => z1.elim) (fun v h2 H1 locs1 z1 z2 z3 => kk v h2 z1 p l e s m args below meth c H1 locs1 ls C hl z2 z3)
/-- throw new E() -/
theorem rw_throw {E : String} {names : List String} {ik ic : Nat} (d0 : decode mi.2.1 pc = .ok (.new ik, 3)) (d3 : decode mi.2.1 (pc + 3) = .ok (.dup, 1)) (d4 : decode mi.2.1 (pc + 4) = .ok (.invokespecial ic, 3)) (d7 : decode mi.2.1 (pc + 7) = .ok (.athrow, 1))
    (hh : mi.2.2.2.2 = []) (hE : E ∈ rCasts) (hfit : Bundle.fit E = true) (hnames : ∀ n ∈ names, Bundle.fit n = true) (hw1 : Cond.classLink mi.1.cls ik E ∈ rTB) (hw2 : Cond.initialized E ∈ rTB) (hw3 : ∀ w ∈ vx_at0 mi.1.cls ic E names, w ∈ rTB ∨ w ∈ rFace)
    (hfr : names.length + 3 < R.frames) (hlo : (st.map fun v => v.category).sum + (13 * (names.length + 1) + 42) ≤ R.locals) (hcells : cells + 1 ≤ R.cells) (hslots : slots + 6 ≤ R.slots) (hx : X E h) : RW G mi R Q X cells slots pc lv st h := fun p l e s m args below meth c H locs ls C hl hH hS => by
  have hK := C.2.2.2.2.2.2.2.2.2.2
  have hot : ∀ w ∈ rTB, vx_ot w = true := fun w z => by
    have := (List.mem_filter.mp z).2
    simp [vx_ot, this]
  refine vx_throw0 C.1 C.2.1 C.2.2.2.2.2.2.2.2.2.1 (A := rA G) C.2.2.2.2.1 hfit hnames (C.2.2.2.2.2.1 _ hw1) (C.2.2.2.2.2.1 _ hw2) (fun w z => ?_) (fun w z => ?_) hK.2.2.2.2.2.1.2.2.2.1 hK.2.2.2.2.2.1.2.2.2.2.1 hS (by rw [C.2.2.2.1]; exact hl.1) d0 d3 d4 d7
    (fun x hx => by rw [C.2.2.2.2.2.2.2.2.1, hh] at hx; cases hx) hfr hlo hcells hslots C.2.2.2.2.2.2.1 (fun t ht hz hk => ⟨⟨h, hx, ?_⟩, Nat.le_trans hS.1 hz, fun q z1 z2 => (hk q (Nat.lt_of_lt_of_le z1 hS.1)).trans (hS.2.1 q z1 z2)⟩) hS.2.2 hcells hslots
  · rcases hw3 w z with g | g
    · exact C.2.2.2.2.2.1 _ g
    · exact va_any (rFace_ok w g).2 (hK.2.2.2.2.2.2.2 _ g)
  · rcases List.mem_cons.mp z with g | z
    · rw [g]; exact hot _ hw1
    · rcases List.mem_cons.mp z with g | z
      · rw [g]; exact hot _ hw2
      · rcases hw3 w z with g | g
        · exact hot _ g
        · simp [vx_ot, (rFace_ok w g).2]
  · obtain ⟨LP, h1, hP, hD⟩ := hH
    exact ⟨LP, h1, hP.kept (fun k x z => hk _ (hP k x z).lt), hD⟩
end RwMake

