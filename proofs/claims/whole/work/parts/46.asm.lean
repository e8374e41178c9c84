/-! THE CLAIM out of the pure law. -/
def pureLaw : Prop := ∀ g : Nat × Nat × (Nat → Int32), g.2.1 ≤ 3072 → ∃ τ, lL_law_23 g 600 0 sg0 = some (1, τ)
theorem rw_selects {C : String} {y : MethodName} {s : State} {args : Array Value} {n : Nat} {z : MethodName} (hz : (Cond.selects C z z).before args s = true) (hzc : z.cls = y.cls) (hy : y.cls ≠ "java/lang/invoke/MethodHandle" ∧ y.cls ≠ "java/lang/invoke/VarHandle")
    (hins : (Cond.instantiable C n).before args s = true) (hpriv : (Cond.privateMethod y).before args s = true) (hinst : (Cond.instanceMethod y).before args s = true) :
    (Cond.selects C y y).before args s = true := by
  obtain ⟨c, k, hc, hk, -, hniab, -, -⟩ := Cond.instantiable_spec hins
  have hni : k.isInterface = false := (Bool.or_eq_false_iff.mp hniab).1
  obtain ⟨mk, methM, hnamed, hmethM, -, -⟩ := Cond.instanceMethod_spec hinst
  have hfound : s.methodFound? y.cls y.name y.desc = some mk := State.methodFound?_of_named hnamed hy
  have hsel : selectMethod {} s.vm c mk = .method mk := selectMethod_private hmethM (Cond.privateMethod_at hpriv mk methM hnamed hmethM)
  obtain ⟨_, _, mz, _, _, hnz, _, kz, hkz, hiz⟩ := Cond.selects_spec hz
  have e1 : mz.cls = mk.cls := Option.some.inj ((findClass_of_methodNamed hnz).symm.trans (hzc ▸ findClass_of_methodNamed hnamed))
  simp only [Cond.before, Cond.holds, Cond.value, hc, hfound, hnamed, hsel, hk]
  simp
  rw [← e1, hkz]
  simp [hiz]
theorem asm_tb {args : Array Value} {s : State} (hts : ∀ w ∈ lw_tbl, w.before args s = true) : ∀ w ∈ rTB, w.before args s = true := by
  intro w hw
  rcases List.mem_append.mp (List.mem_filter.mp hw).1 with h | h
  · have hi : (Cond.instantiable RJ4 4).before args s = true := hts _ (List.mem_of_getElem? (i := 410) (by decide +kernel))
    have hz0 : (Cond.selects RJ4 yJ5_isLatin1_aae02 yJ5_isLatin1_aae02).before args s = true := hts _ (List.mem_of_getElem? (i := 1230) (by decide +kernel))
    unfold rEx at h
    simp only [List.mem_cons, List.not_mem_nil, or_false] at h
    rcases h with rfl | rfl
    · exact rw_selects hz0 rfl (by decide) hi (hts _ (List.mem_of_getElem? (i := 1197) (by decide +kernel))) (hts _ (List.mem_of_getElem? (i := 1198) (by decide +kernel)))
    · exact rw_selects hz0 rfl (by decide) hi (hts _ (List.mem_of_getElem? (i := 1201) (by decide +kernel))) (hts _ (List.mem_of_getElem? (i := 1202) (by decide +kernel)))
  · exact hts w h
theorem tens_mem : ∀ j, j < 100 → Cond.eq (.elem (.static "java/lang/Integer" "DigitTens" "[B") (.int (Int32.ofNat j))) (.int (nI (48 + j / 10))) ∈ flatC (Jvm.Cond.and given_1 narrow_1) := by
  have h : ((flatC (Jvm.Cond.and given_1 narrow_1)).drop 117).take 100 = (List.range 100).map (fun j => Cond.eq (.elem (.static "java/lang/Integer" "DigitTens" "[B") (.int (Int32.ofNat j))) (.int (nI (48 + j / 10)))) := by rfl
  intro j hj
  have h2 : Cond.eq (.elem (.static "java/lang/Integer" "DigitTens" "[B") (.int (Int32.ofNat j))) (.int (nI (48 + j / 10))) ∈ (List.range 100).map (fun j => Cond.eq (.elem (.static "java/lang/Integer" "DigitTens" "[B") (.int (Int32.ofNat j))) (.int (nI (48 + j / 10)))) := List.mem_map.mpr ⟨j, List.mem_range.mpr hj, rfl⟩
  rw [← h] at h2
  exact List.mem_of_mem_drop (List.mem_of_mem_take h2)
theorem ones_mem : ∀ j, j < 100 → Cond.eq (.elem (.static "java/lang/Integer" "DigitOnes" "[B") (.int (Int32.ofNat j))) (.int (nI (48 + j % 10))) ∈ flatC (Jvm.Cond.and given_1 narrow_1) := by
  have h : ((flatC (Jvm.Cond.and given_1 narrow_1)).drop 14).take 100 = (List.range 100).map (fun j => Cond.eq (.elem (.static "java/lang/Integer" "DigitOnes" "[B") (.int (Int32.ofNat j))) (.int (nI (48 + j % 10)))) := by rfl
  intro j hj
  have h2 : Cond.eq (.elem (.static "java/lang/Integer" "DigitOnes" "[B") (.int (Int32.ofNat j))) (.int (nI (48 + j % 10))) ∈ (List.range 100).map (fun j => Cond.eq (.elem (.static "java/lang/Integer" "DigitOnes" "[B") (.int (Int32.ofNat j))) (.int (nI (48 + j % 10)))) := List.mem_map.mpr ⟨j, List.mem_range.mpr hj, rfl⟩
  rw [← h] at h2
  exact List.mem_of_mem_drop (List.mem_of_mem_take h2)
theorem asm_K {args : Array Value} {s : State} {b L : Nat} {xs : Nat → Int32} (hts : ∀ w ∈ lw_tbl, w.before args s = true) (hX : va_X b L xs s s.heap) (hb : b < s.heap.size) (hgv : (Jvm.Cond.and given_1 narrow_1).before args s = true) : ∃ G : rG, G.2.2.1 = s.heap.size ∧ G.2.2.2.1 = (b, L, xs) ∧ rKW G s := by
  have htb := asm_tb hts
  have hs := flat_of_before _ hgv
  -- the classes
  have hcl : ∀ ci : Nat, ∃ (cC : ClassId) (iS : Nat → Nat), ∀ q, rCl[ci]? = some q → u_Kn s q.1 q.2.1 q.2.2 cC iS := by
    have one : ∀ (C : String) (T : u_T) (N : Nat) (ci : Nat) (ty : Nat → FieldType), rCls ci C T N ty → Cond.instantiable C N ∈ lw_tbl → ∃ (cC : ClassId) (iS : Nat → Nat), ∀ q, rCl[ci]? = some q → u_Kn s q.1 q.2.1 q.2.2 cC iS := by
      intro C T N ci ty hC hi
      obtain ⟨cC, iS, hk⟩ := u_known htb hC.2.2.1 (hts _ hi)
      refine ⟨cC, iS, fun q hq => ?_⟩
      cases Option.some.inj (hC.2.1.symm.trans hq)
      exact hk
    intro ci
    match ci with
    | 0 => exact one _ _ _ _ _ clsJ4 (List.mem_of_getElem? (i := 410) (by decide +kernel))
    | 1 => exact one _ _ _ _ _ clsX0 (List.mem_of_getElem? (i := 309) (by decide +kernel))
    | 2 => exact one _ _ _ _ _ clsX1 (List.mem_of_getElem? (i := 110) (by decide +kernel))
    | 3 => exact one _ _ _ _ _ clsX2 (List.mem_of_getElem? (i := 103) (by decide +kernel))
    | 4 => exact one _ _ _ _ _ clsX3 (List.mem_of_getElem? (i := 183) (by decide +kernel))
    | 5 => exact one _ _ _ _ _ clsX5 (List.mem_of_getElem? (i := 277) (by decide +kernel))
    | 6 => exact one _ _ _ _ _ clsX6 (List.mem_of_getElem? (i := 223) (by decide +kernel))
    | 7 => exact one _ _ _ _ _ clsX7 (List.mem_of_getElem? (i := 116) (by decide +kernel))
    | 8 => exact one _ _ _ _ _ clsX8 (List.mem_of_getElem? (i := 384) (by decide +kernel))
    | 9 => exact one _ _ _ _ _ clsX9 (List.mem_of_getElem? (i := 352) (by decide +kernel))
    | 10 => exact one _ _ _ _ _ clsX10 (List.mem_of_getElem? (i := 203) (by decide +kernel))
    | 11 => exact one _ _ _ _ _ clsX11 (List.mem_of_getElem? (i := 95) (by decide +kernel))
    | 12 => exact one _ _ _ _ _ clsX12 (List.mem_of_getElem? (i := 1457) (by decide +kernel))
    | ci + 13 => exact ⟨(one _ _ _ _ _ clsJ4 (List.mem_of_getElem? (i := 410) (by decide +kernel))).choose, fun _ => 0, fun q hq => by
        have : (ci + 13) < rCl.length := (List.getElem?_eq_some_iff.mp hq).1
        have h13 : rCl.length = 13 := rfl
        omega⟩
  obtain ⟨D1, hD1⟩ := Classical.skolem.mp hcl
  obtain ⟨D2, hD2⟩ := Classical.skolem.mp hD1
  -- the arrays
  have prim : ∀ ty : FieldType, Cond.arrayClass ty ∈ lw_tbl → ∃ cA, ArrOfT s cA ty ∧ s.vm.findClass ("[" ++ ty.toString) = some cA := by
    intro ty hm
    obtain ⟨cA, kA, comp, h1, h2, h3⟩ := Cond.arrayClass_spec (hts _ hm)
    exact ⟨cA, fun n z => ⟨fun k h => (by cases h), kA, h2, comp, h3⟩, h1⟩
  have refs : ∀ C : String, Cond.arrayOver (.object C) ∈ lw_tbl → ∃ cA, ArrOfT s cA (.object C) ∧ va_RA s cA (.object C) := by
    intro C hm
    obtain ⟨comp, cA, kA, h1, -, h2, h3, h4⟩ := Cond.arrayOver_spec (hts _ hm)
    exact ⟨cA, fun n z => ⟨fun k h => (by cases h), kA, h2, comp, h3⟩, kA, comp, h2, h3, h1, h4⟩
  obtain ⟨a0, p0, r0⟩ := prim .int (List.mem_of_getElem? (i := 162) (by decide +kernel))
  obtain ⟨a1, p1, r1⟩ := prim .byte (List.mem_of_getElem? (i := 441) (by decide +kernel))
  obtain ⟨a2, p2, r2⟩ := prim .char (List.mem_of_getElem? (i := 408) (by decide +kernel))
  obtain ⟨a3, p3, r3⟩ := prim .boolean (List.mem_of_getElem? (i := 275) (by decide +kernel))
  obtain ⟨a4, p4, r4⟩ := prim .long (List.mem_of_getElem? (i := 1859) (by decide +kernel))
  obtain ⟨a5, p5, r5⟩ := refs "LayerJoins$Boring" (List.mem_of_getElem? (i := 109) (by decide +kernel))
  obtain ⟨a6, p6, r6⟩ := refs "LayerJoins$Place" (List.mem_of_getElem? (i := 189) (by decide +kernel))
  -- the statics
  have hA : ∀ a : Nat, a < s.heap.size → ¬ (s.heap.size ≤ a) := fun a h1 h2 => by omega
  have arrT : (Cond.arrayOf (.static "java/lang/Integer" "DigitTens" "[B") .byte).before args s = true := hs _ (by decide +kernel)
  have arrO : (Cond.arrayOf (.static "java/lang/Integer" "DigitOnes" "[B") .byte).before args s = true := hs _ (by decide +kernel)
  have lenT : (Cond.eq (.length (.static "java/lang/Integer" "DigitTens" "[B")) (.int 100)).before args s = true := hs _ (by decide +kernel)
  have lenO : (Cond.eq (.length (.static "java/lang/Integer" "DigitOnes" "[B")) (.int 100)).before args s = true := hs _ (by decide +kernel)
  obtain ⟨dT, hdT, vT⟩ := va_Tof (A := fun q => s.heap.size ≤ q) (N := 100) (f := fun j => .int (nI (48 + j / 10))) (by decide) arrT (va_eqt lenT) (fun j hj => va_eqt (hs _ (tens_mem j hj))) hA
  obtain ⟨dO, hdO, vO⟩ := va_Tof (A := fun q => s.heap.size ≤ q) (N := 100) (f := fun j => .int (nI (48 + j % 10))) (by decide) arrO (va_eqt lenO) (fun j hj => va_eqt (hs _ (ones_mem j hj))) hA
  have hfm : (Cond.isRef (.static "jdk/internal/util/Preconditions" "SIOOBE_FORMATTER" "Ljava/util/function/BiFunction;")).before args s = true := hs _ (by decide +kernel)
  obtain ⟨vF, hvF, hrF⟩ : ∃ v, (Term.static "jdk/internal/util/Preconditions" "SIOOBE_FORMATTER" "Ljava/util/function/BiFunction;").eval args s none [] s = some v ∧ v.isRef = true := by
    cases hv : (Term.static "jdk/internal/util/Preconditions" "SIOOBE_FORMATTER" "Ljava/util/function/BiFunction;").eval args s none [] s with
    | none => simp [Cond.before, Cond.holds, Cond.value, hv] at hfm
    | some w =>
      simp only [Cond.before, Cond.holds, Cond.value, hv] at hfm
      cases w with
      | null => exact ⟨_, rfl, rfl⟩
      | ref t => exact ⟨_, rfl, rfl⟩
      | _ => simp at hfm
  refine ⟨((D1, D2), (fun k => match k with | 0 => a0 | 1 => a1 | 2 => a2 | 3 => a3 | 4 => a4 | 5 => a5 | _ => a6), s.heap.size, (b, L, xs), (dT, dO), vF), rfl, rfl, ⟨fun c q hq => hD2 c q hq, fun k q hk => ?_⟩, fun w hw => ?_, ⟨?_, ?_⟩, fun q hq => ?_, ⟨?_, ?_⟩, ⟨?_, hX, hb, ?_, ?_, ?_, vT, ?_, vO, ?_, hrF⟩, Nat.le_refl _, fun w hw => ?_⟩
  · match k, hk with
    | 0, hk => cases hk; exact ⟨p0, r0⟩
    | 1, hk => cases hk; exact ⟨p1, r1⟩
    | 2, hk => cases hk; exact ⟨p2, r2⟩
    | 3, hk => cases hk; exact ⟨p3, r3⟩
    | 4, hk => cases hk; exact ⟨p4, r4⟩
    | 5, hk => cases hk; exact ⟨p5, r5⟩
    | 6, hk => cases hk; exact ⟨p6, r6⟩
  · have h8 := (List.mem_filter.mp hw)
    have h9 := hts w h8.1
    cases w <;> first | (exact va_Nw.of rfl h9) | (simp at h8)
  · exact va_Fw.of (hts _ (List.mem_of_getElem? (i := 1090) (by decide +kernel))) (hts _ (List.mem_of_getElem? (i := 1089) (by decide +kernel))) (hts _ (List.mem_of_getElem? (i := 1095) (by decide +kernel))) (hts _ (List.mem_of_getElem? (i := 1093) (by decide +kernel))) (hts _ (List.mem_of_getElem? (i := 1091) (by decide +kernel)))
  · exact va_Fw.of (hts _ (List.mem_of_getElem? (i := 1090) (by decide +kernel))) (hts _ (List.mem_of_getElem? (i := 1089) (by decide +kernel))) (hts _ (List.mem_of_getElem? (i := 1102) (by decide +kernel))) (hts _ (List.mem_of_getElem? (i := 1100) (by decide +kernel))) (hts _ (List.mem_of_getElem? (i := 1098) (by decide +kernel)))
  · have hn : Cond.not (.castable q.1 q.2) ∈ flatC (Jvm.Cond.and given_1 narrow_1) := by
      revert q
      decide +kernel
    exact va_Nc.of (hs _ hn)
  · exact va_AO.of (hts _ (List.mem_of_getElem? (i := 109) (by decide +kernel)))
  · exact va_AO.of (hts _ (List.mem_of_getElem? (i := 189) (by decide +kernel)))
  · exact va_Zof (hts _ (List.mem_of_getElem? (i := 419) (by decide +kernel))) (hts _ (List.mem_of_getElem? (i := 75) (by decide +kernel))) (va_eqi (hs _ (by decide +kernel))) hA
  · exact vx_Zqof (hts (.laysStatic "java/lang/Throwable" "UNASSIGNED_STACK" "[Ljava/lang/StackTraceElement;") (List.mem_of_getElem? (i := 850) (by decide +kernel))) (hts (.initialized "java/lang/Throwable") (List.mem_of_getElem? (i := 78) (by decide +kernel))) (hs (.isRef (.static "java/lang/Throwable" "UNASSIGNED_STACK" "[Ljava/lang/StackTraceElement;")) (by decide +kernel)) hA
  · exact vx_Zqof (hts (.laysStatic "java/lang/Throwable" "SUPPRESSED_SENTINEL" "Ljava/util/List;") (List.mem_of_getElem? (i := 852) (by decide +kernel))) (hts (.initialized "java/lang/Throwable") (List.mem_of_getElem? (i := 78) (by decide +kernel))) (hs (.isRef (.static "java/lang/Throwable" "SUPPRESSED_SENTINEL" "Ljava/util/List;")) (by decide +kernel)) hA
  · exact va_Zof (hts _ (List.mem_of_getElem? (i := 1306) (by decide +kernel))) (hts _ (List.mem_of_getElem? (i := 87) (by decide +kernel))) hdT hA
  · exact va_Zof (hts _ (List.mem_of_getElem? (i := 1304) (by decide +kernel))) (hts _ (List.mem_of_getElem? (i := 87) (by decide +kernel))) hdO hA
  · exact va_Zof (hts _ (List.mem_of_getElem? (i := 797) (by decide +kernel))) (hts _ (List.mem_of_getElem? (i := 91) (by decide +kernel))) hvF hA
  · have hm : w ∈ lw_tbl := by
      unfold rFace rCasts at hw
      simp only [List.map_cons, List.map_nil, List.cons_append, List.nil_append, List.mem_cons, List.not_mem_nil, or_false] at hw
      rcases hw with rfl | rfl | rfl | rfl | rfl | rfl | rfl
      · exact (List.mem_of_getElem? (i := 825) (by decide +kernel))
      · exact (List.mem_of_getElem? (i := 955) (by decide +kernel))
      · exact (List.mem_of_getElem? (i := 924) (by decide +kernel))
      · exact (List.mem_of_getElem? (i := 893) (by decide +kernel))
      · exact (List.mem_of_getElem? (i := 826) (by decide +kernel))
      · exact (List.mem_of_getElem? (i := 828) (by decide +kernel))
      · exact (List.mem_of_getElem? (i := 830) (by decide +kernel))
    exact va_tabs (u := s) (U := s) (rFace_ok w hw).2 rfl (hts w hm)
def lw_P (b : Addr) (xs : List Int32) (args : Array Value) (s : State) : Prop := args = #[.ref b] ∧ s.IntsAt b xs ∧ xs.length ≤ 3072 ∧ (Jvm.Cond.and given_1 narrow_1).before args s = true
def lw_Q (_ : Array Value) (s : State) (o : Outcome) (t : State) : Prop := o = .returned (some (.int 1)) ∧ Framed s o t [] 601024 7293034
set_option maxHeartbeats 4000000 in
theorem lw_walk (hpure : pureLaw) (l : Launch) (hst : l.stackTraces = false) (b : Addr) (xs : List Int32) : MetFree l x (headSpec (Jvm.Cond.code x code maxLocals ret :: tables_1) room_1) (lw_P b xs) (fun _ _ _ _ _ => True) lw_Q := by
  refine MetFree.of_bodyS (code := code) (maxLocals := maxLocals) (ret := ret) (by decide) ?_ ?_
  · intro args s m h hn
    obtain ⟨meth, c, h1, h2, h3, h4, h5, h6, -, -⟩ := Cond.code_spec hn (atoms_spec (ws := Jvm.Cond.code x code maxLocals ret :: tables_1) h _ List.mem_cons_self)
    exact ⟨meth, c, h1, h2, h3, h4, h5, h6⟩
  · intro p e s m args below meth c s₁ B hml0 hP _
    obtain ⟨rfl, hx, hbd, hgv⟩ := hP
    obtain ⟨scr, harrAt, hlist, hof, hsmall⟩ := hx
    obtain ⟨hcb, hkn, -, -⟩ := State.arrayAt?_spec harrAt
    have hown : s.vm.findClass RL = some m.cls := findClass_of_methodNamed B.named
    have hts0 : ∀ c ∈ (Jvm.Cond.code x code maxLocals ret :: tables_1), c.before #[Value.ref b] s = true := atoms_spec (ws := Jvm.Cond.code x code maxLocals ret :: tables_1) B.pre
    have hts : ∀ w ∈ lw_tbl, w.before #[Value.ref b] s = true := k2_hts_sels lw_privs (fun w hw => hts0 w (List.mem_cons_of_mem _ hw)) lw_privs_ok
    have hml : c.maxLocals = 8 := B.maxLocals_eq (hts0 _ List.mem_cons_self)
    have X₀ : Stand p l e room_1 s m #[Value.ref b] below meth c s₁ [] 0 0 := Stand.of_body B
    have hh0 : s₁.heap = s.heap := by rw [B.state]; rfl
    have hsz : scr.slots.size = xs.length := by rw [← Array.length_toList, hlist, List.length_map]
    have hval : ∀ j : Nat, j < xs.length → scr.slots[j]? = some (.int (xs.getD j 0)) := fun j hj => by
      rw [← Array.getElem?_toList, hlist]
      simp [hj]
    have hbl : b < s.heap.size := (Array.getElem?_eq_some_iff.mp hcb).1
    have hX : va_X b xs.length (fun j => xs.getD j 0) s s.heap := ⟨scr, hcb, hof, hkn, hsz, hval⟩
    have ht : c.exceptionTable.toList = [] := by
      obtain ⟨meth9, c9, h1, h2, -, -, -, -, h7, -⟩ := Cond.code_spec B.named (hts0 _ List.mem_cons_self)
      cases Option.some.inj (h1.symm.trans B.method)
      cases Option.some.inj (h2.symm.trans X₀.code)
      rw [Array.isEmpty_iff.mp h7]
    obtain ⟨G, hG1, hG2, hK⟩ := asm_K hts hX hbl hgv
    obtain ⟨τ, hτ⟩ := hpure (b, xs.length, fun j => xs.getD j 0) hbd
    have hrw := law_start (G := G) hG2 hτ
    have hl := lv_entry [Value.ref b] (n := 8) (Nat.le_of_ble_eq_true rfl)
    have K := hrw p l e s m #[Value.ref b] below meth c s.heap [] ((lg_sl [Value.ref b] ++ List.replicate (8 - (lg_sl [Value.ref b]).length) Slot.unset).toArray) ⟨B.exec, B.bytes, B.returns, hml, hown, asm_tb hts, B.notSynchronized, (name_of_methodNamed B.named B.method).1, ht, hst, hK⟩ (by rw [hG2]; exact hl) ⟨[], fun a => ⟨fun z => (by cases z), fun z => absurd rfl z⟩, fun k q hq => (by cases hq), ⟨fun i j p q hp => (by cases hp), fun k q hq => (by cases hq)⟩⟩ va_S.rf
    rw [← hh0] at K
    obtain ⟨t, a1, o, b1, b2, b3⟩ := K s₁ rfl X₀
    refine ⟨t, o, a1, b1, b2, ?_⟩
    rcases b3 with ⟨⟨⟨v, h, rfl, hv, _⟩, _⟩, L, ⟨w1, w2, w3⟩, hLf⟩ | ⟨q, _, E, ce, L, ⟨⟨h9, hx9, _⟩, _⟩, _⟩
    · cases hv
      refine ⟨rfl, w1, w2, w3.1, w3.2.1, w3.2.2.1, w3.2.2.2.1, w3.2.2.2.2.1, fun a cc hcc => ?_⟩
      obtain ⟨c', k1, k2, k3, k4⟩ := w3.2.2.2.2.2 a cc hcc
      refine ⟨c', k1, k2, k3, fun i _ => k4 i (fun z => ?_)⟩
      have h1 := hLf _ z
      have h2 : a < s.heap.size := (Array.getElem?_eq_some_iff.mp hcc).1
      unfold rA at h1
      rw [hG1] at h1
      exact absurd h1 (Nat.not_le.mpr h2)
    · exact hx9.elim
theorem lw_pre_spec2 {args : Array Value} {s : State} (h : (Jvm.Cond.and given_1 narrow_1).before args s = true) (hr : rest_1_c.before args s = true) : ∃ b xs, lw_P b xs args s := by
  have hs := flat_of_before _ h
  have hq := flat_of_before _ hr
  have hc : (Cond.count 1).before args s = true := hs _ (by decide +kernel)
  have harr : (Cond.arrayOf (.arg 0) .int).before args s = true := hs _ (by decide +kernel)
  have hle : (Cond.le (.length (.arg 0)) (.int 3072)).before args s = true := hs _ (by decide +kernel)
  have hlen : (Cond.isInt (.length (.arg 0))).before args s = true := hq _ (by decide +kernel)
  have hall : (Cond.all (.arg 0) (.isInt (.elem (.arg 0) (.index 0)))).before args s = true := hq _ (by decide +kernel)
  obtain ⟨b, xs, hb, hx⟩ := State.ints_of_pre rfl harr hlen hall
  have hsm : xs.length < 2 ^ 31 := hx.choose_spec.2.2.2
  have hev : (Term.length (.arg 0)).eval args s none [] s = some (.int xs.length.toInt32) := hx.length_eval hb
  have hv := Cond.le_ints hev (show (Term.int 3072).eval args s none [] s = some (.int 3072) from rfl)
  have hd : xs.length.toInt32 ≤ 3072 := by
    simpa [Cond.before, Cond.holds, hv] using hle
  have hN : xs.length ≤ 3072 := (Int32.ofNat_le_ofNat hsm (by decide)).mp (show Int32.ofNat xs.length ≤ Int32.ofNat 3072 from hd)
  exact ⟨b, xs, Cond.one_arg hc (show args[0]? = some (.ref b) from hb), hx, hN, h⟩
theorem lw_comes (hpure : pureLaw) (l : Launch) (hst : l.stackTraces = false) : Comes l x (Jvm.Cond.code x code maxLocals ret :: tables_1) room_1 (fun tb e args s => Calls_1 tb e args s ∧ rest_1 tb e args s ∧ Pre_1 tb e args s)
    (fun _ _ args s o t => lw_Q args s o t) := by
  intro p e ha hc hk s m args below hf hfit hheap happ hpre
  obtain ⟨b, xs, hP⟩ := lw_pre_spec2 hpre.2.2 hpre.2.1
  obtain ⟨k, o, h1, h2, h3, hQ⟩ := lw_walk hpure l hst b xs p e ha hc hk s m args below hf ((Spec.applies_iff_loose hf).mp happ).1 hP trivial
  exact ⟨k, o, h1, h2, h3, hQ⟩
theorem lw_frame {s t : State} {o : Outcome} {args : Array Value} (h : Framed s o t [] 601024 7293034) :
    Framed s o t (fieldLocs frame_1_writes args s ++ arrayLocs frame_1_arrays args s ++ staticLocs frame_1_statics s) 601024 7293034 := h
theorem lw_limb (hpure : pureLaw) (L : Cond) (hL : ∀ (args : Array Value) (s t : State), L.after args s (.returned (some (.int 1))) t = true) :
    ArmFor flags0 classFile x code maxLocals ret World_1 tables_1 room_1 Calls_1 rest_1 Pre_1
      (fun tb e a s o t => postC L tb e a s o t ∧ Framed s o t (fieldLocs frame_1_writes a s ++ arrayLocs frame_1_arrays a s ++ staticLocs frame_1_statics s) 601024 7293034) := by
  intro l hfl _ _ p e ha hc hk s m args below hf hfit hheap happ hpre
  have hst : l.stackTraces = false := by
    unfold Launch.stackTraces
    rw [hfl]
    decide
  obtain ⟨k, o, h1, h2, h3, rfl, hF⟩ := lw_comes hpure l hst p e ha hc hk s m args below hf hfit hheap happ hpre
  exact ⟨k, _, h1, h2, h3, hL args s _, lw_frame hF⟩
theorem claim_of (hpure : pureLaw) : Claimed_1_1 ∧ Claimed_1_2 := ⟨lw_limb hpure limb_1_1 (fun args s t => by simp [limb_1_1, Cond.after, Cond.holds, Cond.value]), lw_limb hpure limb_1_2 (fun args s t => Cond.after_iff.mpr (by
  first | (rw [show limb_1_2 = Cond.eq .result (.int 1) from rfl, Cond.eq_ints (x := 1) (y := 1) rfl rfl]; simp; done) | (simp [limb_1_2, Cond.value, Term.eval]; done)))⟩
