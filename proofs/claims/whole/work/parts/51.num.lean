/-! NUMBERS AND THE STORE: what the pure side reads and writes. -/
theorem bm {z : Int} (h1 : -2147483648 ≤ z) (h2 : z < 2147483648) : z.bmod (2 ^ 32) = z := by
  show Int.bmod z 4294967296 = z
  unfold Int.bmod
  dsimp only
  split <;> omega
theorem i_add {a b : Int32} (h1 : -2147483648 ≤ a.toInt + b.toInt) (h2 : a.toInt + b.toInt < 2147483648) : (a + b).toInt = a.toInt + b.toInt := by rw [Int32.toInt_add]; exact bm h1 h2
theorem i_sub {a b : Int32} (h1 : -2147483648 ≤ a.toInt - b.toInt) (h2 : a.toInt - b.toInt < 2147483648) : (a - b).toInt = a.toInt - b.toInt := by rw [Int32.toInt_sub]; exact bm h1 h2
theorem i_mul {a b : Int32} (h1 : -2147483648 ≤ a.toInt * b.toInt) (h2 : a.toInt * b.toInt < 2147483648) : (a * b).toInt = a.toInt * b.toInt := by rw [Int32.toInt_mul]; exact bm h1 h2
theorem i_neg {a : Int32} (h1 : -2147483647 ≤ a.toInt) : (-a).toInt = -a.toInt := by
  rw [Int32.toInt_neg]
  have := Int32.toInt_lt a
  exact bm (by omega) (by omega)
theorem i_lo (a : Int32) : -2147483648 ≤ a.toInt := Int32.le_toInt a
theorem i_hi (a : Int32) : a.toInt < 2147483648 := Int32.toInt_lt a
theorem ki {n : Nat} (h : n < 2147483648) : (nI n).toInt = (n : Int) := nI_toInt h
theorem kc {n : Nat} (h : n < 2147483648) : (nI n).toNatClampNeg = n := nI_clamp h
theorem kadd (a b : Nat) : nI a + nI b = nI (a + b) := (Int32.ofNat_add a b).symm
theorem kmul (a b : Nat) : nI a * nI b = nI (a * b) := (Int32.ofNat_mul a b).symm
theorem ksub {a b : Nat} (h : b ≤ a) : nI a - nI b = nI (a - b) := by
  have : nI a = nI (a - b) + nI b := by rw [kadd]; congr 1; omega
  rw [this, Int32.add_sub_cancel]
theorem i_eq {a b : Int32} (h : a.toInt = b.toInt) : a = b := Int32.toInt_inj.mp h
theorem i_eqi {a b : Int32} : a = b ↔ a.toInt = b.toInt := Int32.toInt_inj.symm
theorem i_lt {a b : Int32} : a < b ↔ a.toInt < b.toInt := Int32.lt_iff_toInt_lt
theorem i_le {a b : Int32} : a ≤ b ↔ a.toInt ≤ b.toInt := Int32.le_iff_toInt_le
theorem klt {a b : Nat} (ha : a < 2147483648) (hb : b < 2147483648) : nI a < nI b ↔ a < b := by rw [i_lt, ki ha, ki hb]; omega
theorem kle {a b : Nat} (ha : a < 2147483648) (hb : b < 2147483648) : nI a ≤ nI b ↔ a ≤ b := by rw [i_le, ki ha, ki hb]; omega
theorem keq {a b : Nat} (ha : a < 2147483648) (hb : b < 2147483648) : nI a = nI b ↔ a = b := by rw [i_eqi, ki ha, ki hb]; omega
theorem i_nI {a : Int32} (h : 0 ≤ a.toInt) : a = nI a.toNatClampNeg := by
  apply i_eq
  have h1 := i_hi a
  have h2 : (a.toNatClampNeg : Int) = a.toInt := by
    show ((a.toInt.toNat : Nat) : Int) = a.toInt
    omega
  rw [ki (by omega)]
  exact h2.symm
theorem i_cl {a : Int32} (h : 0 ≤ a.toInt) : (a.toNatClampNeg : Int) = a.toInt := by
  show ((a.toInt.toNat : Nat) : Int) = a.toInt
  omega
theorem kne1 {a : Nat} (ha : a < 2147483648) : ¬ nI a = (-1) := by
  rw [i_eqi, ki ha]
  show ¬ (a : Int) = -1
  omega
theorem kdiv {a b : Nat} (ha : a < 2147483648) (hb : b < 2147483648) : nI a / nI b = nI (a / b) := by
  apply i_eq
  have h1 : a / b ≤ a := Nat.div_le_self a b
  rw [Int32.toInt_div, ki ha, ki hb, ki (by omega), Int.tdiv_eq_ediv_of_nonneg (by omega)]
  rw [← Int.natCast_ediv]
  generalize a / b = q at h1 ⊢
  exact bm (by omega) (by omega)
theorem kinB {k L : Nat} (hk : k < 2147483648) : inB (nI k) L = decide (k < L) := by
  unfold inB
  rw [kc hk]
  have : ¬ nI k < 0 := by
    rw [i_lt, ki hk]
    show ¬ (k : Int) < 0
    omega
  simp [this]
/-- truth as the program has it -/
def bI (b : Bool) : Int32 := match b with | true => 1 | false => 0
theorem bI_0 (b : Bool) : (bI b = 0) = (b = false) := by cases b <;> decide
theorem bI_1 (b : Bool) : (bI b = 1) = (b = true) := by cases b <;> decide
theorem bI_01 (b : Bool) : (bI b = 0 ∨ bI b = 1) = True := by cases b <;> decide
theorem bI_t : bI true = 1 := rfl
theorem bI_f : bI false = 0 := rfl
theorem bI_inj {a b : Bool} : (bI a = bI b) = (a = b) := by cases a <;> cases b <;> decide
/-- reading what was written -/
theorem uI_1 (σ : rS) (n k : Nat) (v : Int32) (m j : Nat) : (uI σ n k v).1 m j = if m = n ∧ j = k then v else σ.1 m j := by
  unfold uI
  by_cases h : m = n
  · subst h
    by_cases h2 : j = k
    · subst h2
      rw [if_pos ⟨rfl, rfl⟩]
      show va_up σ.1 m _ m j = v
      rw [va_up_self, va_up_self]
    · rw [if_neg (fun z => h2 z.2)]
      show va_up σ.1 m _ m j = σ.1 m j
      rw [va_up_self, va_up_ne _ _ h2]
  · rw [if_neg (fun z => h z.1)]
    show va_up σ.1 n _ m j = σ.1 m j
    rw [va_up_ne _ _ h]
theorem uI_eq (σ : rS) (n k : Nat) (v : Int32) : (uI σ n k v).1 n k = v := by rw [uI_1, if_pos ⟨rfl, rfl⟩]
theorem uI_ne {σ : rS} {n k m j : Nat} {v : Int32} (h : m ≠ n) : (uI σ n k v).1 m j = σ.1 m j := by rw [uI_1, if_neg (fun z => h z.1)]
theorem uI_nj {σ : rS} {n k m j : Nat} {v : Int32} (h : j ≠ k) : (uI σ n k v).1 m j = σ.1 m j := by rw [uI_1, if_neg (fun z => h z.2)]
theorem uI_2 (σ : rS) (n k : Nat) (v : Int32) : (uI σ n k v).2 = σ.2 := rfl
theorem uL_1 (σ : rS) (n k : Nat) (v : Int64) : (uL σ n k v).1 = σ.1 := rfl
theorem uL_2 (σ : rS) (n k : Nat) (v : Int64) (m j : Nat) : (uL σ n k v).2.1 m j = if m = n ∧ j = k then v else σ.2.1 m j := by
  unfold uL
  by_cases h : m = n
  · subst h
    by_cases h2 : j = k
    · subst h2
      rw [if_pos ⟨rfl, rfl⟩]
      show va_up σ.2.1 m _ m j = v
      rw [va_up_self, va_up_self]
    · rw [if_neg (fun z => h2 z.2)]
      show va_up σ.2.1 m _ m j = σ.2.1 m j
      rw [va_up_self, va_up_ne _ _ h2]
  · rw [if_neg (fun z => h z.1)]
    show va_up σ.2.1 n _ m j = σ.2.1 m j
    rw [va_up_ne _ _ h]
theorem uL_3 (σ : rS) (n k : Nat) (v : Int64) : (uL σ n k v).2.2 = σ.2.2 := rfl
theorem uA_1 (σ : rS) (n i : Nat) (v : Int32) : (uA σ n i v).1 = σ.1 := rfl
theorem uA_2 (σ : rS) (n i : Nat) (v : Int32) : (uA σ n i v).2.1 = σ.2.1 := rfl
theorem uA_3 (σ : rS) (n i : Nat) (v : Int32) (m j : Nat) : (uA σ n i v).2.2.1 m j = if m = n ∧ j = i then v else σ.2.2.1 m j := by
  unfold uA
  by_cases h : m = n
  · subst h
    show va_up σ.2.2.1 m _ m j = _
    rw [va_up_self]
    unfold upd
    by_cases h2 : j = i
    · subst h2
      rw [if_pos rfl, if_pos ⟨rfl, rfl⟩]
    · rw [if_neg h2, if_neg (fun z => h2 z.2)]
  · rw [if_neg (fun z => h z.1)]
    show va_up σ.2.2.1 n _ m j = σ.2.2.1 m j
    rw [va_up_ne _ _ h]
theorem uA_eq (σ : rS) (n k : Nat) (v : Int32) : (uA σ n k v).2.2.1 n k = v := by rw [uA_3, if_pos ⟨rfl, rfl⟩]
theorem uA_ne {σ : rS} {n k m j : Nat} {v : Int32} (h : m ≠ n) : (uA σ n k v).2.2.1 m j = σ.2.2.1 m j := by rw [uA_3, if_neg (fun z => h z.1)]
theorem uA_nj {σ : rS} {n k m j : Nat} {v : Int32} (h : j ≠ k) : (uA σ n k v).2.2.1 m j = σ.2.2.1 m j := by rw [uA_3, if_neg (fun z => h z.2)]
theorem uA_4 (σ : rS) (n i : Nat) (v : Int32) : (uA σ n i v).2.2.2 = σ.2.2.2 := rfl
theorem uO_1 (σ : rS) (i : Nat) (v : Int64) : (uO σ i v).1 = σ.1 := rfl
theorem uO_2 (σ : rS) (i : Nat) (v : Int64) : (uO σ i v).2.1 = σ.2.1 := rfl
theorem uO_3 (σ : rS) (i : Nat) (v : Int64) : (uO σ i v).2.2.1 = σ.2.2.1 := rfl
theorem uO_5 (σ : rS) (i : Nat) (v : Int64) : (uO σ i v).2.2.2.2 = σ.2.2.2.2 := rfl
theorem uO_4 (σ : rS) (v : Int64) : (uO σ 0 v).2.2.2.1 0 = v := rfl
theorem uB_1 (σ : rS) (n : Nat) (f : Nat → Int32) : (uB σ n f).1 = σ.1 := rfl
theorem uB_2 (σ : rS) (n : Nat) (f : Nat → Int32) : (uB σ n f).2.1 = σ.2.1 := rfl
theorem uB_3 (σ : rS) (n : Nat) (f : Nat → Int32) : (uB σ n f).2.2.1 = σ.2.2.1 := rfl
theorem uB_4 (σ : rS) (n : Nat) (f : Nat → Int32) : (uB σ n f).2.2.2.1 = σ.2.2.2.1 := rfl
theorem uB_5 (σ : rS) (n : Nat) (f : Nat → Int32) : (uB σ n f).2.2.2.2 = (n, f) := rfl
theorem vS_d {β : Type} (σ : rS) (k : rS → Option β) : vS σ k = k σ := rfl
theorem vI_d {β : Type} (x : Int32) (k : Int32 → Option β) : vI x k = k x := rfl
theorem vJ_d {β : Type} (x : Int64) (k : Int64 → Option β) : vJ x k = k x := rfl
/-- the objects of the model, of the class, the builder's bytes and the law's row -/
abbrev isM (n : Nat) : Prop := 43 ≤ n ∧ n < 74
def Eqo (σ τ : rS) (n : Nat) : Prop := (∀ k, σ.1 n k = τ.1 n k) ∧ (∀ k, σ.2.1 n k = τ.2.1 n k) ∧ ∀ k, σ.2.2.1 n k = τ.2.2.1 n k
theorem Eqo.rf (σ : rS) (n : Nat) : Eqo σ σ n := ⟨fun _ => rfl, fun _ => rfl, fun _ => rfl⟩
theorem Eqo.tr {σ τ υ : rS} {n : Nat} (h1 : Eqo σ τ n) (h2 : Eqo τ υ n) : Eqo σ υ n := ⟨fun k => (h1.1 k).trans (h2.1 k), fun k => (h1.2.1 k).trans (h2.2.1 k), fun k => (h1.2.2 k).trans (h2.2.2 k)⟩
theorem Eqo.sy {σ τ : rS} {n : Nat} (h1 : Eqo σ τ n) : Eqo τ σ n := ⟨fun k => (h1.1 k).symm, fun k => (h1.2.1 k).symm, fun k => (h1.2.2 k).symm⟩
/-- all objects but those of O are as before, the bytes too -/
def Kp (O : Nat → Prop) (σ τ : rS) : Prop := (∀ n, ¬ O n → Eqo τ σ n) ∧ τ.2.2.2 = σ.2.2.2
theorem Kp.rf (O : Nat → Prop) (σ : rS) : Kp O σ σ := ⟨fun n _ => Eqo.rf σ n, rfl⟩
theorem Kp.tr {O : Nat → Prop} {σ τ υ : rS} (h1 : Kp O σ τ) (h2 : Kp O τ υ) : Kp O σ υ := ⟨fun n hn => (h2.1 n hn).tr (h1.1 n hn), h2.2.trans h1.2⟩
theorem Kp.mono {O O2 : Nat → Prop} {σ τ : rS} (h1 : Kp O σ τ) (h : ∀ n, O n → O2 n) : Kp O2 σ τ := ⟨fun n hn => h1.1 n (fun z => hn (h n z)), h1.2⟩
theorem Kp.uI {O : Nat → Prop} {σ : rS} {n k : Nat} {v : Int32} (hn : O n) : Kp O σ (uI σ n k v) := ⟨fun m hm => ⟨fun j => by rw [uI_1, if_neg (fun (z : m = n ∧ _) => hm (by rw [z.1]; exact hn))], fun _ => rfl, fun _ => rfl⟩, rfl⟩
theorem Kp.uL {O : Nat → Prop} {σ : rS} {n k : Nat} {v : Int64} (hn : O n) : Kp O σ (uL σ n k v) := ⟨fun m hm => ⟨fun _ => rfl, fun j => by rw [uL_2, if_neg (fun (z : m = n ∧ _) => hm (by rw [z.1]; exact hn))], fun _ => rfl⟩, rfl⟩
theorem Kp.uA {O : Nat → Prop} {σ : rS} {n k : Nat} {v : Int32} (hn : O n) : Kp O σ (uA σ n k v) := ⟨fun m hm => ⟨fun _ => rfl, fun _ => rfl, fun j => by rw [uA_3, if_neg (fun (z : m = n ∧ _) => hm (by rw [z.1]; exact hn))]⟩, rfl⟩
