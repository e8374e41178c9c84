/-! THE LAW'S START: the constructors are run; then the heap holds the first store. -/
theorem vp_refs {c : ClassId} {n : Nat} {f f2 : Nat → Option Nat} (h : ∀ j, j < n → f j = f2 j) : vp_cell c (n, .inr (.inr (.inr (.inr f)))) = vp_cell c (n, .inr (.inr (.inr (.inr f2)))) := by
  unfold vp_cell arrV
  dsimp only
  congr 2
  funext j
  rw [h j.val j.isLt]
def alike1 (e e2 : va_E) : Prop := e = e2 ∨ ∃ c n f f2, e = .inl (c, n, .inr (.inr (.inr (.inr f)))) ∧ e2 = .inl (c, n, .inr (.inr (.inr (.inr f2)))) ∧ ∀ j, j < n → f j = f2 j
theorem rHR.alike {G : rG} {h h2 : rH} {H : Heap} (hal : ∀ a, alike1 (h a) (h2 a)) (hH : rHR G h H) : rHR G h2 H := by
  obtain ⟨LP, g1, g2, g3⟩ := hH
  have hdead : ∀ a, h a ≠ rDead ↔ h2 a ≠ rDead := by
    intro a
    rcases hal a with z | ⟨c, n, f, f2, z1, z2, _⟩
    · rw [z]
    · rw [z1, z2]
      exact ⟨fun _ => inl_live, fun _ => inl_live⟩
  have hget : ∀ (k : Nat) (q : Nat × va_E), (va_pl LP h2)[k]? = some q → q.2 = h2 q.1 ∧ (va_pl LP h)[k]? = some (q.1, h q.1) := by
    intro k q hq
    unfold va_pl at hq ⊢
    rw [List.getElem?_map] at hq ⊢
    cases hk : LP[k]? with
    | none => rw [hk] at hq; cases hq
    | some a =>
      rw [hk] at hq
      cases hq
      exact ⟨rfl, rfl⟩
  refine ⟨LP, fun a => (g1 a).trans (hdead a), fun k q hq => ?_, ⟨fun i j p q hp hq z => ?_, fun k q hq => ?_⟩⟩
  · obtain ⟨e1, e2⟩ := hget k q hq
    have := g2 k _ e2
    unfold va_at at this ⊢
    rw [e1]
    dsimp only at this
    rcases hal q.1 with z | ⟨c, n, f, f2, z1, z2, z3⟩
    · rw [← z]; exact this
    · rw [z1] at this
      rw [z2]
      dsimp only at this ⊢
      rw [this, vp_refs z3]
  · exact g3.1 i j _ _ (hget i p hp).2 (hget j q hq).2 z
  · exact g3.2 k (q.1, h q.1) (hget k q hq).2
theorem rw_refs {G : rG} {mi : rMI} {R : Room} {Q : Option Value → rH → Prop} {X : String → rH → Prop} {cells slots pc : Nat} {lv : List (Nat × Value)} {st : List Value} {h : rH} {T : List (Nat × va_E)} {a : Nat} {c : ClassId} {n : Nat} {f f2 : Nat → Option Nat} (hh : Has ((a, .inl (c, n, .inr (.inr (.inr (.inr f))))) :: T) h) (hf : ∀ j, j < n → f j = f2 j)
    (kk : ∀ h, Has ((a, .inl (c, n, .inr (.inr (.inr (.inr f2))))) :: T) h → RW G mi R Q X cells slots pc lv st h) : RW G mi R Q X cells slots pc lv st h := fun p l e s m args below meth cd H locs ls C hl hH hS => by
  refine kk (hput h a (.inl (c, n, .inr (.inr (.inr (.inr f2)))))) (hh.put inl_live) p l e s m args below meth cd H locs ls C hl ?_ hS
  refine hH.alike fun b => ?_
  by_cases hb : b = a
  · subst hb
    refine Or.inr ⟨c, n, f, f2, hh.hd, ?_, hf⟩
    exact va_up_self _ _ _
  · exact Or.inl (va_up_ne _ _ hb).symm
theorem perm_pull {α : Type} : ∀ (L : List α) (k : Nat) (x : α), L[k]? = some x → L.Perm (x :: L.eraseIdx k)
  | [], _, _, h => by cases h
  | a :: L, 0, x, h => by
    obtain rfl : a = x := Option.some.inj h
    exact List.Perm.refl _
  | a :: L, k + 1, x, h => ((perm_pull L k x h).cons a).trans (List.Perm.swap _ _ _)
theorem Has.pull {L : List (Nat × va_E)} {x : Nat × va_E} {h : rH} (k : Nat) (hh : Has L h) (hx : L[k]? = some x) : Has (x :: L.eraseIdx k) h := hh.perm (perm_pull L k x hx)
theorem nd_inj {α β : Type} {f : α → β} : ∀ {l : List α}, (l.map f).Nodup → ∀ a ∈ l, ∀ b ∈ l, f a = f b → a = b
  | [], _, a, ha, _, _, _ => by cases ha
  | c :: l, hd, a, ha, b, hb, z => by
    rw [List.map_cons, List.nodup_cons] at hd
    rcases List.mem_cons.mp ha with a1 | a1
    · rcases List.mem_cons.mp hb with b1 | b1
      · rw [a1, b1]
      · exact absurd (List.mem_map.mpr ⟨b, b1, by rw [← z, a1]⟩) hd.1
    · rcases List.mem_cons.mp hb with b1 | b1
      · exact absurd (List.mem_map.mpr ⟨a, a1, by rw [z, b1]⟩) hd.1
      · exact nd_inj hd.2 a a1 b b1 z
theorem Rep_of {G : rG} {ad : Nat → Nat} {q : Nat} {σ : rS} {h : rH} (nums : List Nat) (hdom : ∀ n, dom n → n ∈ nums) (hh : Has ((q, .inl (G.2.1 1, σ.2.2.2.2.1, .inl σ.2.2.2.2.2)) :: nums.map (fun n => (ad n, cellOf G ad q σ n))) h) : RepQ G ad q σ h := by
  have h1 := hh.1
  rw [List.map_cons, List.nodup_cons, List.map_map] at h1
  refine ⟨fun n hn => (hh.2 _ (List.mem_cons_of_mem _ (List.mem_map.mpr ⟨n, hdom n hn, rfl⟩))).1, fun n k hn hk z => nd_inj h1.2 n (hdom n hn) k (hdom k hk) z, hh.hd, fun n hn z => h1.1 (List.mem_map.mpr ⟨n, hdom n hn, z⟩)⟩
def sg0 : rS := (fun n k => if n = 0 ∧ k = 10 then 50 else if n = 43 ∧ k = 12 then 50 else 0, fun _ _ => 0, fun _ _ => 0, fun _ => 0, (16, fun _ => 0))
def ad0 (x y z p0 p1 p2 p3 p4 p5 p6 p7 p8 p9 p10 p11 p12 p13 p14 p15 p16 p17 p18 p19 p20 p21 p22 p23 p24 p25 p26 p27 p28 p29 p30 p31 p32 p33 p34 p35 p36 p37 p38 p39 p40 p41 r0 r1 r2 r3 r4 r5 r6 r7 r8 r9 r10 r11 r12 r13 r14 r15 r16 r17 r18 r19 r20 r21 r22 r23 r24 r25 r26 r27 r28 r29 : Nat) (fp0 fp1 : Nat → Nat) (n : Nat) : Nat :=
  if n < 74 then (match n with
    | 0 => x
    | 1 => p0
    | 2 => p1
    | 3 => p2
    | 4 => p3
    | 5 => p4
    | 6 => p5
    | 7 => p6
    | 8 => p7
    | 9 => p8
    | 10 => p9
    | 11 => p10
    | 12 => p11
    | 13 => p12
    | 14 => p13
    | 15 => p14
    | 16 => p15
    | 17 => p16
    | 18 => p17
    | 19 => p18
    | 20 => p19
    | 21 => p20
    | 22 => p21
    | 23 => p22
    | 24 => p23
    | 25 => p24
    | 26 => p25
    | 27 => p26
    | 28 => p27
    | 29 => p28
    | 30 => p29
    | 31 => p30
    | 32 => p31
    | 33 => p32
    | 34 => p33
    | 35 => p34
    | 36 => p35
    | 37 => p36
    | 38 => p37
    | 39 => p38
    | 40 => p39
    | 41 => p41
    | 42 => z
    | 43 => y
    | 44 => r0
    | 45 => r1
    | 46 => r2
    | 47 => r3
    | 48 => r4
    | 49 => r5
    | 50 => r6
    | 51 => r7
    | 52 => r8
    | 53 => r9
    | 54 => r10
    | 55 => r11
    | 56 => r12
    | 57 => r13
    | 58 => r14
    | 59 => r15
    | 60 => r16
    | 61 => r17
    | 62 => r18
    | 63 => r19
    | 64 => r20
    | 65 => r21
    | 66 => r22
    | 67 => r23
    | 68 => r24
    | 69 => r25
    | 70 => r26
    | 71 => r27
    | 72 => r28
    | 73 => r29
    | _ => 0) else if n < 144 then fp0 n else fp1 n
theorem ad0_b {x y z p0 p1 p2 p3 p4 p5 p6 p7 p8 p9 p10 p11 p12 p13 p14 p15 p16 p17 p18 p19 p20 p21 p22 p23 p24 p25 p26 p27 p28 p29 p30 p31 p32 p33 p34 p35 p36 p37 p38 p39 p40 p41 r0 r1 r2 r3 r4 r5 r6 r7 r8 r9 r10 r11 r12 r13 r14 r15 r16 r17 r18 r19 r20 r21 r22 r23 r24 r25 r26 r27 r28 r29 : Nat} {fp0 fp1 : Nat → Nat} {n : Nat} (h1 : 80 ≤ n) (h2 : n < 144) : ad0 x y z p0 p1 p2 p3 p4 p5 p6 p7 p8 p9 p10 p11 p12 p13 p14 p15 p16 p17 p18 p19 p20 p21 p22 p23 p24 p25 p26 p27 p28 p29 p30 p31 p32 p33 p34 p35 p36 p37 p38 p39 p40 p41 r0 r1 r2 r3 r4 r5 r6 r7 r8 r9 r10 r11 r12 r13 r14 r15 r16 r17 r18 r19 r20 r21 r22 r23 r24 r25 r26 r27 r28 r29 fp0 fp1 n = fp0 n := (if_neg (by omega)).trans (if_pos h2)
theorem ad0_f {x y z p0 p1 p2 p3 p4 p5 p6 p7 p8 p9 p10 p11 p12 p13 p14 p15 p16 p17 p18 p19 p20 p21 p22 p23 p24 p25 p26 p27 p28 p29 p30 p31 p32 p33 p34 p35 p36 p37 p38 p39 p40 p41 r0 r1 r2 r3 r4 r5 r6 r7 r8 r9 r10 r11 r12 r13 r14 r15 r16 r17 r18 r19 r20 r21 r22 r23 r24 r25 r26 r27 r28 r29 : Nat} {fp0 fp1 : Nat → Nat} {n : Nat} (h1 : 144 ≤ n) : ad0 x y z p0 p1 p2 p3 p4 p5 p6 p7 p8 p9 p10 p11 p12 p13 p14 p15 p16 p17 p18 p19 p20 p21 p22 p23 p24 p25 p26 p27 p28 p29 p30 p31 p32 p33 p34 p35 p36 p37 p38 p39 p40 p41 r0 r1 r2 r3 r4 r5 r6 r7 r8 r9 r10 r11 r12 r13 r14 r15 r16 r17 r18 r19 r20 r21 r22 r23 r24 r25 r26 r27 r28 r29 fp0 fp1 n = fp1 n := (if_neg (by omega)).trans (if_neg (by omega))
def nums0 : List Nat := [5, 4, 2, 42, 43, 73, 72, 71, 70, 69, 68, 67, 66, 65, 64, 63, 62, 61, 60, 59, 58, 57, 56, 55, 54, 53, 52, 51, 50, 49, 48, 47, 46, 45, 44, 0, 41, 40, 38, 39, 34, 37, 36, 35, 25, 33, 32, 31, 30, 29, 28, 27, 26, 18, 24, 23, 22, 21, 20, 19, 10, 17, 16, 15, 14, 13, 12, 11, 6, 9, 8, 7, 3, 159, 158, 157, 156, 155, 154, 153, 152, 151, 150, 149, 148, 147, 146, 145, 144, 1, 140, 143, 142, 141, 136, 139, 138, 137, 132, 135, 134, 133, 128, 131, 130, 129, 124, 127, 126, 125, 120, 123, 122, 121, 116, 119, 118, 117, 112, 115, 114, 113, 108, 111, 110, 109, 104, 107, 106, 105, 100, 103, 102, 101, 96, 99, 98, 97, 92, 95, 94, 93, 88, 91, 90, 89, 84, 87, 86, 85, 80, 83, 82, 81]
theorem nums0_dom : ∀ n, dom n → n ∈ nums0 := by
  have h : ∀ n, n < 160 → dom n → n ∈ nums0 := by decide +kernel
  exact fun n hn => h n (by unfold dom at hn; omega) hn
set_option maxHeartbeats 16000000 in
set_option maxRecDepth 100000 in
theorem law_start {G : rG} {g : Nat × Nat × (Nat → Int32)} (hg : G.2.2.2.1 = g) {o : Int32 × rS} (hf : lL_law_23 g 600 0 sg0 = some o) : RW G mL_law room_1 (fun v _ => v = some (.int o.1)) xN 0 0 0 [(0, .ref G.2.2.2.1.1)] [] (fun _ => rDead) := by
  have hh : Has [] (fun _ => rDead) := ⟨List.nodup_nil, fun p hp => by cases hp⟩
  revert hh
  generalize (fun _ => rDead : rH) = h
  intro hh
  refine hx_new (ci := 11) (fs := [.null, .null, .null, .null, .null, .null, .null, .null, .null, .null, .int 0, .int 0, .int 0]) hh dL_law_0 clsX11 wm94 wm95 wm62 (fun j hj => match j, hj with | 0, _ => rfl | 1, _ => rfl | 2, _ => rfl | 3, _ => rfl | 4, _ => rfl | 5, _ => rfl | 6, _ => rfl | 7, _ => rfl | 8, _ => rfl | 9, _ => rfl | 10, _ => rfl | 11, _ => rfl | 12, _ => rfl | j + 13, hj => absurd hj (by omega)) (by decide) (by decide) (fun x h hh => ?_)
  refine rw_dup dL_law_3 rfl ?_
  refine hx_callI (As := []) (st := [.ref x]) dL_law_4 calX11_init rfl rfl wm96 wm97 rfl rfl (Nat.le_of_ble_eq_true rfl) ⟨⟨by decide, by decide⟩, by decide, by decide⟩ (inX11 hh) (fun h hh => ?_)
  obtain ⟨p0, p1, p2, p3, p4, p5, p6, p7, p8, p9, p10, p11, p12, p13, p14, p15, p16, p17, p18, p19, p20, p21, p22, p23, p24, p25, p26, p27, p28, p29, p30, p31, p32, p33, p34, p35, p36, p37, p38, p39, p40, p41, fp0, fp1, hh⟩ := hh
  refine rw_astore_n (lv2 := [(1, .ref x), (0, .ref G.2.2.2.1.1)]) dL_law_7 rfl (by decide) rfl ?_
  refine hx_new (ci := 12) (fs := [.int 0, .int 0, .int 0, .null, .null, .null, .null, .null, .null, .null, .int 0, .null, .int 0, .int 0, .int 0, .null, .int 0, .null, .null, .null, .null, .null, .null, .int 0, .null, .int 0, .null, .null, .null, .long 0, .long 0, .int 0, .null, .int 0, .null, .null, .null, .int 0, .null, .int 0, .null, .null, .null, .null, .null, .null]) hh dL_law_8 clsX12 wm1456 wm1457 wm77 (fun j hj => match j, hj with | 0, _ => rfl | 1, _ => rfl | 2, _ => rfl | 3, _ => rfl | 4, _ => rfl | 5, _ => rfl | 6, _ => rfl | 7, _ => rfl | 8, _ => rfl | 9, _ => rfl | 10, _ => rfl | 11, _ => rfl | 12, _ => rfl | 13, _ => rfl | 14, _ => rfl | 15, _ => rfl | 16, _ => rfl | 17, _ => rfl | 18, _ => rfl | 19, _ => rfl | 20, _ => rfl | 21, _ => rfl | 22, _ => rfl | 23, _ => rfl | 24, _ => rfl | 25, _ => rfl | 26, _ => rfl | 27, _ => rfl | 28, _ => rfl | 29, _ => rfl | 30, _ => rfl | 31, _ => rfl | 32, _ => rfl | 33, _ => rfl | 34, _ => rfl | 35, _ => rfl | 36, _ => rfl | 37, _ => rfl | 38, _ => rfl | 39, _ => rfl | 40, _ => rfl | 41, _ => rfl | 42, _ => rfl | 43, _ => rfl | 44, _ => rfl | 45, _ => rfl | j + 46, hj => absurd hj (by omega)) (by decide) (by decide) (fun y h hh => ?_)
  refine rw_dup dL_law_11 rfl ?_
  refine hx_callI (As := []) (st := [.ref y]) dL_law_12 calX12_init rfl rfl wm1458 wm1459 rfl rfl (Nat.le_of_ble_eq_true rfl) ⟨⟨by decide, by decide⟩, by decide, by decide⟩ (inX12 hh) (fun h hh => ?_)
  obtain ⟨r0, r1, r2, r3, r4, r5, r6, r7, r8, r9, r10, r11, r12, r13, r14, r15, r16, r17, r18, r19, r20, r21, r22, r23, r24, r25, r26, r27, r28, r29, hh⟩ := hh
  refine rw_astore_n (lv2 := [(2, .ref y), (1, .ref x), (0, .ref G.2.2.2.1.1)]) dL_law_15 rfl (by decide) rfl ?_
  refine rw_iconst (v := 1) dL_law_16 (by decide) ?_
  refine hx_newarr (ti := 4) (ty := .long) (N := 1) (a0 := (1, .inr (.inl (fun _ => 0)))) hh dL_law_17 rfl rfl wm1859 (fun _ => rfl) (by decide) (by decide) (by decide) (by decide) (by decide) (fun z h hh => ?_)
  refine rw_astore_n (lv2 := [(3, .ref z), (2, .ref y), (1, .ref x), (0, .ref G.2.2.2.1.1)]) dL_law_19 rfl (by decide) rfl ?_
  refine rw_iconst (v := 0) dL_law_20 (by decide) ?_
  refine rw_istore (lv2 := [(4, .int 0), (3, .ref z), (2, .ref y), (1, .ref x), (0, .ref G.2.2.2.1.1)]) dL_law_21 (by decide) rfl ?_
  refine rw_refs (a := p1) (f2 := fun j => some (ad0 x y z p0 p1 p2 p3 p4 p5 p6 p7 p8 p9 p10 p11 p12 p13 p14 p15 p16 p17 p18 p19 p20 p21 p22 p23 p24 p25 p26 p27 p28 p29 p30 p31 p32 p33 p34 p35 p36 p37 p38 p39 p40 p41 r0 r1 r2 r3 r4 r5 r6 r7 r8 r9 r10 r11 r12 r13 r14 r15 r16 r17 r18 r19 r20 r21 r22 r23 r24 r25 r26 r27 r28 r29 fp0 fp1 (80 + 4 * j))) (hh.pull 90 rfl) (fun j hj => (if_pos hj).trans (congrArg some (ad0_b (by omega) (by omega)).symm)) (fun h hh => ?_)
  refine rw_refs (a := p3) (f2 := fun j => some (ad0 x y z p0 p1 p2 p3 p4 p5 p6 p7 p8 p9 p10 p11 p12 p13 p14 p15 p16 p17 p18 p19 p20 p21 p22 p23 p24 p25 p26 p27 p28 p29 p30 p31 p32 p33 p34 p35 p36 p37 p38 p39 p40 p41 r0 r1 r2 r3 r4 r5 r6 r7 r8 r9 r10 r11 r12 r13 r14 r15 r16 r17 r18 r19 r20 r21 r22 r23 r24 r25 r26 r27 r28 r29 fp0 fp1 (144 + 2 * j))) (hh.pull 73 rfl) (fun j hj => (if_pos hj).trans (congrArg some (ad0_f (by omega) ).symm)) (fun h hh => ?_)
  refine rw_refs (a := p4) (f2 := fun j => some (ad0 x y z p0 p1 p2 p3 p4 p5 p6 p7 p8 p9 p10 p11 p12 p13 p14 p15 p16 p17 p18 p19 p20 p21 p22 p23 p24 p25 p26 p27 p28 p29 p30 p31 p32 p33 p34 p35 p36 p37 p38 p39 p40 p41 r0 r1 r2 r3 r4 r5 r6 r7 r8 r9 r10 r11 r12 r13 r14 r15 r16 r17 r18 r19 r20 r21 r22 r23 r24 r25 r26 r27 r28 r29 fp0 fp1 (145 + 2 * j))) (hh.pull 73 rfl) (fun j hj => (if_pos hj).trans (congrArg some (ad0_f (by omega) ).symm)) (fun h hh => ?_)
  replace hh := hh.pull 38 rfl
  have hr : RepQ G (ad0 x y z p0 p1 p2 p3 p4 p5 p6 p7 p8 p9 p10 p11 p12 p13 p14 p15 p16 p17 p18 p19 p20 p21 p22 p23 p24 p25 p26 p27 p28 p29 p30 p31 p32 p33 p34 p35 p36 p37 p38 p39 p40 p41 r0 r1 r2 r3 r4 r5 r6 r7 r8 r9 r10 r11 r12 r13 r14 r15 r16 r17 r18 r19 r20 r21 r22 r23 r24 r25 r26 r27 r28 r29 fp0 fp1) p40 sg0 h := Rep_of nums0 nums0_dom hh
  exact rw_sub [4, 3, 2, 1, 0] rfl (t_lL_law_23 (ad := ad0 x y z p0 p1 p2 p3 p4 p5 p6 p7 p8 p9 p10 p11 p12 p13 p14 p15 p16 p17 p18 p19 p20 p21 p22 p23 p24 p25 p26 p27 p28 p29 p30 p31 p32 p33 p34 p35 p36 p37 p38 p39 p40 p41 r0 r1 r2 r3 r4 r5 r6 r7 r8 r9 r10 r11 r12 r13 r14 r15 r16 r17 r18 r19 r20 r21 r22 r23 r24 r25 r26 r27 r28 r29 fp0 fp1) (fun _ _ => rfl) g hg 600 _ _ (by decide) (by decide) 0 sg0 h ⟨_, hr⟩ hf)
