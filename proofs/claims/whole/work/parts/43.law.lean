def mL_law : rMI := (yL_law, cL_law, 8, (some .boolean), [])
theorem bud {a n P e M c : Nat} (h : a + (n + 1) * P + e ≤ M) (hc : c ≤ P) : a + c + n * P + e ≤ M := by
  rw [Nat.add_mul, Nat.one_mul] at h
  omega
theorem bud0 {a n P e M : Nat} (h : a + (n + 1) * P + e ≤ M) : a + n * P + e ≤ M := by
  rw [Nat.add_mul, Nat.one_mul] at h
  omega
section RwLaw
variable {G : rG} {mi : rMI} {R : Room} {Q : Option Value → rH → Prop} {X : String → rH → Prop} {cells slots pc : Nat} {lv : List (Nat × Value)} {st : List Value} {h : rH} {g : Nat × Nat × (Nat → Int32)}
theorem rw_sc {i : Int32} (hg : G.2.2.2.1 = g) (hd : decode mi.2.1 pc = .ok (.iaload, 1)) (hin : vp_in i g.2.1) (kk : RW G mi R Q X cells slots (pc + 1) lv (.int (g.2.2 i.toNatClampNeg) :: st) h) : RW G mi R Q X cells slots pc lv (.int i :: .ref G.2.2.2.1.1 :: st) h := by
  subst hg
  exact rw_script hd hin kk
theorem rw_scLen (hg : G.2.2.2.1 = g) (hd : decode mi.2.1 pc = .ok (.arraylength, 1)) (kk : RW G mi R Q X cells slots (pc + 1) lv (.int (Int32.ofNat g.2.1) :: st) h) : RW G mi R Q X cells slots pc lv (.ref G.2.2.2.1.1 :: st) h := by
  subst hg
  exact rw_scriptLen hd kk
end RwLaw
def lL_law_23 (g : Nat × Nat × (Nat → Int32)) : Nat → Int32 → rS → Option (Int32 × rS)
  | 0, _, _ => none
  | n + 1, v4, σ => if ((Int32.ofNat g.2.1) - 6) < v4 then some (1, σ) else if inB v4 g.2.1 then (if ((g.2.2 v4.toNatClampNeg) &&& 31) = 0 then if inB (v4 + 1) g.2.1 then if inB (v4 + 2) g.2.1 then if inB (v4 + 3) g.2.1 then (fL_boring (g.2.2 (v4 + 1).toNatClampNeg) (g.2.2 (v4 + 2).toNatClampNeg) (g.2.2 (v4 + 3).toNatClampNeg) σ).bind fun q7 => vI q7.1 fun x8 => if inB (v4 + 1) g.2.1 then if inB (v4 + 2) g.2.1 then if inB (v4 + 3) g.2.1 then (fX12_boring (g.2.2 (v4 + 1).toNatClampNeg) (g.2.2 (v4 + 2).toNatClampNeg) (g.2.2 (v4 + 3).toNatClampNeg) q7.2).bind fun q12 => vI q12.1 fun x13 => (fX12_thrown q12.2).bind fun q14 => (if q14.1 = x8 then if x8 = 0 then if inB 0 1 then (if (lg_cmp (q14.2.2.2.2.1 (0 : Int32).toNatClampNeg) x13.toInt64) = 0 then vI (v4 + 6) fun x20 => (lL_law_23 g n) x20 q14.2 else some (0, q14.2)) else none else vI (v4 + 6) fun x17 => (lL_law_23 g n) x17 q14.2 else some (0, q14.2)) else none else none else none else none else none else none else if ((g.2.2 v4.toNatClampNeg) &&& 31) = 1 then if inB (v4 + 1) g.2.1 then if inB (v4 + 2) g.2.1 then if inB (v4 + 3) g.2.1 then (fL_layer (g.2.2 (v4 + 1).toNatClampNeg) (g.2.2 (v4 + 2).toNatClampNeg) (g.2.2 (v4 + 3).toNatClampNeg) σ).bind fun q25 => vI q25.1 fun x26 => if inB (v4 + 1) g.2.1 then if inB (v4 + 2) g.2.1 then if inB (v4 + 3) g.2.1 then (fX12_layer (g.2.2 (v4 + 1).toNatClampNeg) (g.2.2 (v4 + 2).toNatClampNeg) (g.2.2 (v4 + 3).toNatClampNeg) q25.2).bind fun q30 => vI q30.1 fun x31 => (fX12_thrown q30.2).bind fun q32 => (if q32.1 = x26 then if x26 = 0 then if inB 0 1 then (if (lg_cmp (q32.2.2.2.2.1 (0 : Int32).toNatClampNeg) x31.toInt64) = 0 then vI (v4 + 6) fun x38 => (lL_law_23 g n) x38 q32.2 else some (0, q32.2)) else none else vI (v4 + 6) fun x35 => (lL_law_23 g n) x35 q32.2 else some (0, q32.2)) else none else none else none else none else none else none else if ((g.2.2 v4.toNatClampNeg) &&& 31) = 2 then if inB (v4 + 1) g.2.1 then if inB (v4 + 2) g.2.1 then (fX11_age (g.2.2 (v4 + 1).toNatClampNeg) (g.2.2 (v4 + 2).toNatClampNeg) σ).bind fun q42 => if inB (v4 + 1) g.2.1 then if inB (v4 + 2) g.2.1 then (fX12_age (g.2.2 (v4 + 1).toNatClampNeg) (g.2.2 (v4 + 2).toNatClampNeg) q42.2).bind fun q45 => (if q42.1 = q45.1 then vI (v4 + 6) fun x47 => (lL_law_23 g n) x47 q45.2 else some (0, q45.2)) else none else none else none else none else if ((g.2.2 v4.toNatClampNeg) &&& 31) = 3 then if inB (v4 + 1) g.2.1 then if inB (v4 + 2) g.2.1 then if inB (v4 + 3) g.2.1 then if inB (v4 + 4) g.2.1 then (fX11_fault (g.2.2 (v4 + 1).toNatClampNeg) (g.2.2 (v4 + 2).toNatClampNeg) (g.2.2 (v4 + 3).toNatClampNeg) (g.2.2 (v4 + 4).toNatClampNeg) σ).bind fun q53 => if inB (v4 + 1) g.2.1 then if inB (v4 + 2) g.2.1 then if inB (v4 + 3) g.2.1 then if inB (v4 + 4) g.2.1 then (fX12_fault (g.2.2 (v4 + 1).toNatClampNeg) (g.2.2 (v4 + 2).toNatClampNeg) (g.2.2 (v4 + 3).toNatClampNeg) (g.2.2 (v4 + 4).toNatClampNeg) q53.2).bind fun q58 => (if q53.1 = q58.1 then vI (v4 + 6) fun x60 => (lL_law_23 g n) x60 q58.2 else some (0, q58.2)) else none else none else none else none else none else none else none else none else if ((g.2.2 v4.toNatClampNeg) &&& 31) = 4 then if inB (v4 + 1) g.2.1 then (fX11_lens (g.2.2 (v4 + 1).toNatClampNeg) σ).bind fun q63 => if inB (v4 + 1) g.2.1 then (fX12_lens (g.2.2 (v4 + 1).toNatClampNeg) q63.2).bind fun q65 => (if q63.1 = q65.1 then vI (v4 + 6) fun x67 => (lL_law_23 g n) x67 q65.2 else some (0, q65.2)) else none else none else if ((g.2.2 v4.toNatClampNeg) &&& 31) = 5 then if inB (v4 + 1) g.2.1 then if inB (v4 + 2) g.2.1 then if inB (v4 + 3) g.2.1 then (fX11_water (g.2.2 (v4 + 1).toNatClampNeg) (g.2.2 (v4 + 2).toNatClampNeg) (g.2.2 (v4 + 3).toNatClampNeg) σ).bind fun q72 => if inB (v4 + 1) g.2.1 then if inB (v4 + 2) g.2.1 then if inB (v4 + 3) g.2.1 then (fX12_water (g.2.2 (v4 + 1).toNatClampNeg) (g.2.2 (v4 + 2).toNatClampNeg) (g.2.2 (v4 + 3).toNatClampNeg) q72.2).bind fun q76 => (if q72.1 = q76.1 then vI (v4 + 6) fun x78 => (lL_law_23 g n) x78 q76.2 else some (0, q76.2)) else none else none else none else none else none else none else if ((g.2.2 v4.toNatClampNeg) &&& 31) = 6 then if inB (v4 + 1) g.2.1 then (fX11_within (g.2.2 (v4 + 1).toNatClampNeg) σ).bind fun q81 => if inB (v4 + 1) g.2.1 then (fX12_within (g.2.2 (v4 + 1).toNatClampNeg) q81.2).bind fun q83 => (if q81.1 = q83.1 then vI (v4 + 6) fun x85 => (lL_law_23 g n) x85 q83.2 else some (0, q83.2)) else none else none else if ((g.2.2 v4.toNatClampNeg) &&& 31) = 7 then (fX11_run σ).bind fun q87 => (fX12_run q87.2).bind fun q88 => if q87.1 = q88.1 then vI (v4 + 6) fun x90 => (lL_law_23 g n) x90 q88.2 else some (0, q88.2) else if ((g.2.2 v4.toNatClampNeg) &&& 31) = 8 then if inB (v4 + 1) g.2.1 then (fL_count (g.2.2 (v4 + 1).toNatClampNeg) σ).bind fun q93 => vI q93.1 fun x94 => if inB (v4 + 1) g.2.1 then (fX12_count (g.2.2 (v4 + 1).toNatClampNeg) q93.2).bind fun q96 => vI q96.1 fun x97 => (fX12_thrown q96.2).bind fun q98 => (if q98.1 = x94 then if x94 = 0 then if inB 0 1 then (if (lg_cmp (q98.2.2.2.2.1 (0 : Int32).toNatClampNeg) x97.toInt64) = 0 then vI (v4 + 6) fun x104 => (lL_law_23 g n) x104 q98.2 else some (0, q98.2)) else none else vI (v4 + 6) fun x101 => (lL_law_23 g n) x101 q98.2 else some (0, q98.2)) else none else none else if ((g.2.2 v4.toNatClampNeg) &&& 31) = 9 then if inB (v4 + 1) g.2.1 then if inB (v4 + 2) g.2.1 then (fL_edge (g.2.2 (v4 + 1).toNatClampNeg) (g.2.2 (v4 + 2).toNatClampNeg) σ).bind fun q108 => vI q108.1 fun x109 => if inB (v4 + 1) g.2.1 then if inB (v4 + 2) g.2.1 then (fX12_edge (g.2.2 (v4 + 1).toNatClampNeg) (g.2.2 (v4 + 2).toNatClampNeg) q108.2).bind fun q112 => vI q112.1 fun x113 => (fX12_thrown q112.2).bind fun q114 => (if q114.1 = x109 then if x109 = 0 then if inB 0 1 then (if (lg_cmp (q114.2.2.2.2.1 (0 : Int32).toNatClampNeg) x113.toInt64) = 0 then vI (v4 + 6) fun x120 => (lL_law_23 g n) x120 q114.2 else some (0, q114.2)) else none else vI (v4 + 6) fun x117 => (lL_law_23 g n) x117 q114.2 else some (0, q114.2)) else none else none else none else none else if ((g.2.2 v4.toNatClampNeg) &&& 31) = 10 then if inB (v4 + 1) g.2.1 then if inB (v4 + 2) g.2.1 then (fL_triangle (g.2.2 (v4 + 1).toNatClampNeg) (g.2.2 (v4 + 2).toNatClampNeg) σ).bind fun q124 => vI q124.1 fun x125 => if inB (v4 + 1) g.2.1 then if inB (v4 + 2) g.2.1 then (fX12_triangle (g.2.2 (v4 + 1).toNatClampNeg) (g.2.2 (v4 + 2).toNatClampNeg) q124.2).bind fun q128 => vI q128.1 fun x129 => (fX12_thrown q128.2).bind fun q130 => (if q130.1 = x125 then if x125 = 0 then if inB 0 1 then (if (lg_cmp (q130.2.2.2.2.1 (0 : Int32).toNatClampNeg) x129.toInt64) = 0 then vI (v4 + 6) fun x136 => (lL_law_23 g n) x136 q130.2 else some (0, q130.2)) else none else vI (v4 + 6) fun x133 => (lL_law_23 g n) x133 q130.2 else some (0, q130.2)) else none else none else none else none else if ((g.2.2 v4.toNatClampNeg) &&& 31) = 11 then if inB (v4 + 1) g.2.1 then if inB (v4 + 2) g.2.1 then if inB (v4 + 3) g.2.1 then (fL_match (g.2.2 (v4 + 1).toNatClampNeg) (g.2.2 (v4 + 2).toNatClampNeg) (g.2.2 (v4 + 3).toNatClampNeg) σ).bind fun q141 => vI q141.1 fun x142 => if inB (v4 + 1) g.2.1 then if inB (v4 + 2) g.2.1 then if inB (v4 + 3) g.2.1 then (fX12_match (g.2.2 (v4 + 1).toNatClampNeg) (g.2.2 (v4 + 2).toNatClampNeg) (g.2.2 (v4 + 3).toNatClampNeg) q141.2).bind fun q146 => vI q146.1 fun x147 => (fX12_thrown q146.2).bind fun q148 => (if q148.1 = x142 then if x142 = 0 then if inB 0 1 then (if (lg_cmp (q148.2.2.2.2.1 (0 : Int32).toNatClampNeg) x147.toInt64) = 0 then vI (v4 + 6) fun x154 => (lL_law_23 g n) x154 q148.2 else some (0, q148.2)) else none else vI (v4 + 6) fun x151 => (lL_law_23 g n) x151 q148.2 else some (0, q148.2)) else none else none else none else none else none else none else if ((g.2.2 v4.toNatClampNeg) &&& 31) = 12 then if inB (v4 + 1) g.2.1 then if inB (v4 + 2) g.2.1 then (fL_sum (g.2.2 (v4 + 1).toNatClampNeg) (g.2.2 (v4 + 2).toNatClampNeg) σ).bind fun q158 => vI q158.1 fun x159 => if inB (v4 + 1) g.2.1 then if inB (v4 + 2) g.2.1 then (fX12_sum (g.2.2 (v4 + 1).toNatClampNeg) (g.2.2 (v4 + 2).toNatClampNeg) q158.2).bind fun q162 => vI q162.1 fun x163 => (fX12_thrown q162.2).bind fun q164 => (if q164.1 = x159 then if x159 = 0 then if inB 0 1 then (if (lg_cmp (q164.2.2.2.2.1 (0 : Int32).toNatClampNeg) x163.toInt64) = 0 then vI (v4 + 6) fun x170 => (lL_law_23 g n) x170 q164.2 else some (0, q164.2)) else none else vI (v4 + 6) fun x167 => (lL_law_23 g n) x167 q164.2 else some (0, q164.2)) else none else none else none else none else if ((g.2.2 v4.toNatClampNeg) &&& 31) = 13 then if inB (v4 + 1) g.2.1 then if inB (v4 + 2) g.2.1 then if inB (v4 + 3) g.2.1 then if inB (v4 + 4) g.2.1 then (fL_section (g.2.2 (v4 + 1).toNatClampNeg) (g.2.2 (v4 + 2).toNatClampNeg) (g.2.2 (v4 + 3).toNatClampNeg) (g.2.2 (v4 + 4).toNatClampNeg) σ).bind fun q176 => vI q176.1 fun x177 => if inB (v4 + 1) g.2.1 then if inB (v4 + 2) g.2.1 then if inB (v4 + 3) g.2.1 then if inB (v4 + 4) g.2.1 then (fX12_section (g.2.2 (v4 + 1).toNatClampNeg) (g.2.2 (v4 + 2).toNatClampNeg) (g.2.2 (v4 + 3).toNatClampNeg) (g.2.2 (v4 + 4).toNatClampNeg) q176.2).bind fun q182 => vI q182.1 fun x183 => (fX12_thrown q182.2).bind fun q184 => (if q184.1 = x177 then if x177 = 0 then if inB 0 1 then (if (lg_cmp (q184.2.2.2.2.1 (0 : Int32).toNatClampNeg) x183.toInt64) = 0 then vI (v4 + 6) fun x190 => (lL_law_23 g n) x190 q184.2 else some (0, q184.2)) else none else vI (v4 + 6) fun x187 => (lL_law_23 g n) x187 q184.2 else some (0, q184.2)) else none else none else none else none else none else none else none else none else if ((g.2.2 v4.toNatClampNeg) &&& 31) = 14 then (fL_crosses σ).bind fun q192 => vI q192.1 fun x193 => (fX12_crosses q192.2).bind fun q194 => vI q194.1 fun x195 => (fX12_thrown q194.2).bind fun q196 => if q196.1 = x193 then if x193 = 0 then if inB 0 1 then (if x195 = 0 then if (lg_cmp (q196.2.2.2.2.1 (0 : Int32).toNatClampNeg) 0) = 0 then vI (v4 + 6) fun x203 => (lL_law_23 g n) x203 q196.2 else some (0, q196.2) else if (lg_cmp (q196.2.2.2.2.1 (0 : Int32).toNatClampNeg) 1) = 0 then vI (v4 + 6) fun x205 => (lL_law_23 g n) x205 q196.2 else some (0, q196.2)) else none else vI (v4 + 6) fun x199 => (lL_law_23 g n) x199 q196.2 else some (0, q196.2) else if ((g.2.2 v4.toNatClampNeg) &&& 31) = 15 then if inB (v4 + 1) g.2.1 then if inB (v4 + 2) g.2.1 then (fL_bed (g.2.2 (v4 + 1).toNatClampNeg) (g.2.2 (v4 + 2).toNatClampNeg) σ).bind fun q209 => vI q209.1 fun x210 => if inB (v4 + 1) g.2.1 then if inB (v4 + 2) g.2.1 then (fX12_bed (g.2.2 (v4 + 1).toNatClampNeg) (g.2.2 (v4 + 2).toNatClampNeg) q209.2).bind fun q213 => vI q213.1 fun x214 => (fX12_thrown q213.2).bind fun q215 => (if q215.1 = x210 then if x210 = 0 then if inB 0 1 then (if (lg_cmp (q215.2.2.2.2.1 (0 : Int32).toNatClampNeg) x214.toInt64) = 0 then vI (v4 + 6) fun x221 => (lL_law_23 g n) x221 q215.2 else some (0, q215.2)) else none else vI (v4 + 6) fun x218 => (lL_law_23 g n) x218 q215.2 else some (0, q215.2)) else none else none else none else none else if ((g.2.2 v4.toNatClampNeg) &&& 31) = 16 then if inB (v4 + 1) g.2.1 then if inB (v4 + 2) g.2.1 then (fL_bedOf (g.2.2 (v4 + 1).toNatClampNeg) (g.2.2 (v4 + 2).toNatClampNeg) σ).bind fun q225 => vI q225.1 fun x226 => if inB (v4 + 1) g.2.1 then if inB (v4 + 2) g.2.1 then (fX12_bedOf (g.2.2 (v4 + 1).toNatClampNeg) (g.2.2 (v4 + 2).toNatClampNeg) q225.2).bind fun q229 => vI q229.1 fun x230 => (fX12_thrown q229.2).bind fun q231 => (if q231.1 = x226 then if x226 = 0 then if inB 0 1 then (if (lg_cmp (q231.2.2.2.2.1 (0 : Int32).toNatClampNeg) x230.toInt64) = 0 then vI (v4 + 6) fun x237 => (lL_law_23 g n) x237 q231.2 else some (0, q231.2)) else none else vI (v4 + 6) fun x234 => (lL_law_23 g n) x234 q231.2 else some (0, q231.2)) else none else none else none else none else if ((g.2.2 v4.toNatClampNeg) &&& 31) = 17 then if inB (v4 + 1) g.2.1 then if inB (v4 + 2) g.2.1 then if inB (v4 + 3) g.2.1 then if inB (v4 + 4) g.2.1 then (fL_at (g.2.2 (v4 + 1).toNatClampNeg) (g.2.2 (v4 + 2).toNatClampNeg) (g.2.2 (v4 + 3).toNatClampNeg) (g.2.2 (v4 + 4).toNatClampNeg) σ).bind fun q243 => vI q243.1 fun x244 => if inB (v4 + 1) g.2.1 then if inB (v4 + 2) g.2.1 then if inB (v4 + 3) g.2.1 then if inB (v4 + 4) g.2.1 then (fX12_at_ (g.2.2 (v4 + 1).toNatClampNeg) (g.2.2 (v4 + 2).toNatClampNeg) (g.2.2 (v4 + 3).toNatClampNeg) (g.2.2 (v4 + 4).toNatClampNeg) q243.2).bind fun q249 => vJ q249.1 fun x250 => (fX12_thrown q249.2).bind fun q251 => (if q251.1 = x244 then if x244 = 0 then if inB 0 1 then (if (lg_cmp (q251.2.2.2.2.1 (0 : Int32).toNatClampNeg) x250) = 0 then vI (v4 + 6) fun x257 => (lL_law_23 g n) x257 q251.2 else some (0, q251.2)) else none else vI (v4 + 6) fun x254 => (lL_law_23 g n) x254 q251.2 else some (0, q251.2)) else none else none else none else none else none else none else none else none else if ((g.2.2 v4.toNatClampNeg) &&& 31) = 18 then if inB (v4 + 1) g.2.1 then if inB (v4 + 2) g.2.1 then if inB (v4 + 3) g.2.1 then if inB (v4 + 4) g.2.1 then (fL_wet (g.2.2 (v4 + 1).toNatClampNeg) (g.2.2 (v4 + 2).toNatClampNeg) (g.2.2 (v4 + 3).toNatClampNeg) (g.2.2 (v4 + 4).toNatClampNeg) σ).bind fun q263 => vI q263.1 fun x264 => if inB (v4 + 1) g.2.1 then if inB (v4 + 2) g.2.1 then if inB (v4 + 3) g.2.1 then if inB (v4 + 4) g.2.1 then (fX12_wet (g.2.2 (v4 + 1).toNatClampNeg) (g.2.2 (v4 + 2).toNatClampNeg) (g.2.2 (v4 + 3).toNatClampNeg) (g.2.2 (v4 + 4).toNatClampNeg) q263.2).bind fun q269 => vJ q269.1 fun x270 => (fX12_thrown q269.2).bind fun q271 => (if q271.1 = x264 then if x264 = 0 then if inB 0 1 then (if (lg_cmp (q271.2.2.2.2.1 (0 : Int32).toNatClampNeg) x270) = 0 then vI (v4 + 6) fun x277 => (lL_law_23 g n) x277 q271.2 else some (0, q271.2)) else none else vI (v4 + 6) fun x274 => (lL_law_23 g n) x274 q271.2 else some (0, q271.2)) else none else none else none else none else none else none else none else none else if ((g.2.2 v4.toNatClampNeg) &&& 31) = 19 then if inB (v4 + 1) g.2.1 then if inB (v4 + 2) g.2.1 then if inB (v4 + 3) g.2.1 then if inB (v4 + 4) g.2.1 then if inB (v4 + 5) g.2.1 then (fL_volume (g.2.2 (v4 + 1).toNatClampNeg) (g.2.2 (v4 + 2).toNatClampNeg) (g.2.2 (v4 + 3).toNatClampNeg) (g.2.2 (v4 + 4).toNatClampNeg) (g.2.2 (v4 + 5).toNatClampNeg) σ).bind fun q284 => vI q284.1 fun x285 => if inB (v4 + 1) g.2.1 then if inB (v4 + 2) g.2.1 then if inB (v4 + 3) g.2.1 then if inB (v4 + 4) g.2.1 then if inB (v4 + 5) g.2.1 then (fX12_volume (g.2.2 (v4 + 1).toNatClampNeg) (g.2.2 (v4 + 2).toNatClampNeg) (g.2.2 (v4 + 3).toNatClampNeg) (g.2.2 (v4 + 4).toNatClampNeg) (g.2.2 (v4 + 5).toNatClampNeg) q284.2).bind fun q291 => vJ q291.1 fun x292 => (fX12_thrown q291.2).bind fun q293 => (if q293.1 = x285 then if x285 = 0 then if inB 0 1 then (if (lg_cmp (q293.2.2.2.2.1 (0 : Int32).toNatClampNeg) x292) = 0 then vI (v4 + 6) fun x299 => (lL_law_23 g n) x299 q293.2 else some (0, q293.2)) else none else vI (v4 + 6) fun x296 => (lL_law_23 g n) x296 q293.2 else some (0, q293.2)) else none else none else none else none else none else none else none else none else none else none else if ((g.2.2 v4.toNatClampNeg) &&& 31) = 20 then if inB (v4 + 1) g.2.1 then if inB (v4 + 2) g.2.1 then if inB (v4 + 3) g.2.1 then if inB (v4 + 4) g.2.1 then (fL_later (g.2.2 (v4 + 1).toNatClampNeg) (g.2.2 (v4 + 2).toNatClampNeg) (g.2.2 (v4 + 3).toNatClampNeg) (g.2.2 (v4 + 4).toNatClampNeg) σ).bind fun q305 => vI q305.1 fun x306 => if inB (v4 + 1) g.2.1 then if inB (v4 + 2) g.2.1 then if inB (v4 + 3) g.2.1 then if inB (v4 + 4) g.2.1 then (fX12_later (g.2.2 (v4 + 1).toNatClampNeg) (g.2.2 (v4 + 2).toNatClampNeg) (g.2.2 (v4 + 3).toNatClampNeg) (g.2.2 (v4 + 4).toNatClampNeg) q305.2).bind fun q311 => vI q311.1 fun x312 => (fX12_thrown q311.2).bind fun q313 => (if q313.1 = x306 then if x306 = 0 then if inB 0 1 then (if (lg_cmp (q313.2.2.2.2.1 (0 : Int32).toNatClampNeg) x312.toInt64) = 0 then vI (v4 + 6) fun x319 => (lL_law_23 g n) x319 q313.2 else some (0, q313.2)) else none else vI (v4 + 6) fun x316 => (lL_law_23 g n) x316 q313.2 else some (0, q313.2)) else none else none else none else none else none else none else none else none else if ((g.2.2 v4.toNatClampNeg) &&& 31) = 21 then if inB (v4 + 1) g.2.1 then if inB (v4 + 2) g.2.1 then (fX11_doubt (g.2.2 (v4 + 1).toNatClampNeg) (g.2.2 (v4 + 2).toNatClampNeg) σ).bind fun q323 => if inB (v4 + 1) g.2.1 then if inB (v4 + 2) g.2.1 then (fX12_doubt (g.2.2 (v4 + 1).toNatClampNeg) (g.2.2 (v4 + 2).toNatClampNeg) q323.2).bind fun q326 => (if q323.1 = q326.1 then vI (v4 + 6) fun x328 => (lL_law_23 g n) x328 q326.2 else some (0, q326.2)) else none else none else none else none else if ((g.2.2 v4.toNatClampNeg) &&& 31) = 22 then if inB (v4 + 1) g.2.1 then (fX11_unit (g.2.2 (v4 + 1).toNatClampNeg) σ).bind fun q331 => if inB (v4 + 1) g.2.1 then (fX12_unit (g.2.2 (v4 + 1).toNatClampNeg) q331.2).bind fun q333 => (if q331.1 = q333.1 then vI (v4 + 6) fun x335 => (lL_law_23 g n) x335 q333.2 else some (0, q333.2)) else none else none else if ((g.2.2 v4.toNatClampNeg) &&& 31) = 23 then (fX11_read σ).bind fun q337 => (fX12_read q337.2).bind fun q338 => if q337.1 = q338.1 then vI (v4 + 6) fun x340 => (lL_law_23 g n) x340 q338.2 else some (0, q338.2) else if ((g.2.2 v4.toNatClampNeg) &&& 31) = 24 then if inB (v4 + 1) g.2.1 then (fL_write (g.2.2 (v4 + 1).toNatClampNeg) σ).bind fun q343 => vI q343.1 fun x344 => if inB (v4 + 1) g.2.1 then (fX12_write (g.2.2 (v4 + 1).toNatClampNeg) q343.2).bind fun q346 => vI q346.1 fun x347 => (fX12_thrown q346.2).bind fun q348 => (if q348.1 = x344 then if x344 = 0 then if inB 0 1 then (if (lg_cmp (q348.2.2.2.2.1 (0 : Int32).toNatClampNeg) x347.toInt64) = 0 then vI (v4 + 6) fun x354 => (lL_law_23 g n) x354 q348.2 else some (0, q348.2)) else none else vI (v4 + 6) fun x351 => (lL_law_23 g n) x351 q348.2 else some (0, q348.2)) else none else none else if ((g.2.2 v4.toNatClampNeg) &&& 31) = 25 then if inB (v4 + 1) g.2.1 then (fX11_letter (g.2.2 (v4 + 1).toNatClampNeg) σ).bind fun q357 => if inB (v4 + 1) g.2.1 then (fX12_letter (g.2.2 (v4 + 1).toNatClampNeg) q357.2).bind fun q359 => (if q357.1 = q359.1 then vI (v4 + 6) fun x361 => (lL_law_23 g n) x361 q359.2 else some (0, q359.2)) else none else none else vI (v4 + 6) fun x362 => (lL_law_23 g n) x362 σ) else none
set_option maxHeartbeats 16000000 in
theorem t_lL_law_23 {G : rG} {ad : Nat → Nat} {o : Int32 × rS} {Q : Option Value → rH → Prop} (hQ : ∀ h, Rep G ad o.2 h → Q (some (.int o.1)) h) (g : Nat × Nat × (Nat → Int32)) (hg : G.2.2.2.1 = g) : ∀ (n : Nat) (cc cs : Nat), cc + n * 64 + 0 ≤ 601024 → cs + n * 9000 + 0 ≤ 7293034 → ∀ (v4 : Int32) (σ : rS) (h : rH), Rep G ad σ h → lL_law_23 g n v4 σ = some o → RW G mL_law room_1 Q xN cc cs 23 [(0, .ref G.2.2.2.1.1), (1, .ref (ad 0)), (2, .ref (ad 43)), (3, .ref (ad 42)), (4, .int v4)] [] h := by
  intro n
  induction n with
  | zero =>
    intro cc cs hbc hbs v4 σ h hr hf
    rw [lL_law_23] at hf
    cases hf
  | succ n ih =>
    intro cc cs hbc hbs v4 σ h hr hf
    rw [lL_law_23] at hf
    refine rw_iload dL_law_23 4 rfl ?_
    refine rw_aload_n dL_law_25 0 rfl rfl ?_
    refine rw_scLen hg dL_law_26 ?_
    refine rw_bipush (v := 6) dL_law_27 (by decide) ?_
    refine rw_isub dL_law_29 ?_
    refine rw_icmp_gt (tgt := 1688) dL_law_30 (by decide) (fun c1 => ?_) (fun c1 => ?_)
    · rw [if_pos c1] at hf
      refine rw_iconst (v := 1) dL_law_1688 (by decide) ?_
      replace hf := Option.some.inj hf
      subst hf
      exact rw_zreturn dL_law_1689 rfl (by decide) (hQ _ hr) (by show cc ≤ 601024; omega) (by show cs ≤ 7293034; omega)
    · rw [if_neg c1] at hf
      refine rw_aload_n dL_law_33 0 rfl rfl ?_
      refine rw_iload dL_law_34 4 rfl ?_
      obtain ⟨hi2, hf⟩ := grd hf
      refine rw_sc hg dL_law_36 (inB_in hi2) ?_
      refine rw_bipush (v := 31) dL_law_37 (by decide) ?_
      refine rw_iand dL_law_39 ?_
      by_cases c3 : ((g.2.2 v4.toNatClampNeg) &&& 31) = 0
      · rw [if_pos c3] at hf
        refine rw_top c3 (rw_tableIn (off := 120) (tgt := 160) dL_law_40 (by decide) (by decide) rfl (by decide) ?_)
        refine rw_aload_n dL_law_160 1 rfl rfl ?_
        refine rw_aload_n dL_law_161 0 rfl rfl ?_
        refine rw_iload dL_law_162 4 rfl ?_
        refine rw_iconst (v := 1) dL_law_164 (by decide) ?_
        refine rw_iadd dL_law_165 ?_
        obtain ⟨hi4, hf⟩ := grd hf
        refine rw_sc hg dL_law_166 (inB_in hi4) ?_
        refine rw_aload_n dL_law_167 0 rfl rfl ?_
        refine rw_iload dL_law_168 4 rfl ?_
        refine rw_iconst (v := 2) dL_law_170 (by decide) ?_
        refine rw_iadd dL_law_171 ?_
        obtain ⟨hi5, hf⟩ := grd hf
        refine rw_sc hg dL_law_172 (inB_in hi5) ?_
        refine rw_aload_n dL_law_173 0 rfl rfl ?_
        refine rw_iload dL_law_174 4 rfl ?_
        refine rw_iconst (v := 3) dL_law_176 (by decide) ?_
        refine rw_iadd dL_law_177 ?_
        obtain ⟨hi6, hf⟩ := grd hf
        refine rw_sc hg dL_law_178 (inB_in hi6) ?_
        refine rw_aload_n dL_law_179 3 rfl rfl ?_
        obtain ⟨q7, hq7, hf⟩ := bnd hf
        refine kW_I (ad := ad) (As := [.ref (ad 0), .int (g.2.2 (v4 + 1).toNatClampNeg), .int (g.2.2 (v4 + 2).toNatClampNeg), .int (g.2.2 (v4 + 3).toNatClampNeg), .ref (ad 42)]) (st := []) dL_law_180 calL_boring wm813 wm814 rfl rfl (Nat.le_of_ble_eq_true rfl) ⟨⟨by decide, by decide⟩, by show cc + 1 ≤ 601024; omega, by show cs + 6 ≤ 7293034; omega⟩ (cmL_boring hr hq7) (fun h hr => ?_)
        refine nmI hf (fun x8 hf => ?_)
        refine rw_istore (lv2 := [(5, .int x8), (0, .ref G.2.2.2.1.1), (1, .ref (ad 0)), (2, .ref (ad 43)), (3, .ref (ad 42)), (4, .int v4)]) dL_law_183 (by decide) rfl ?_
        refine rw_aload_n dL_law_185 3 rfl rfl ?_
        refine rw_aload_n dL_law_186 1 rfl rfl ?_
        refine rw_iload dL_law_187 5 rfl ?_
        refine rw_iconst (v := 1) dL_law_189 (by decide) ?_
        refine rw_iadd dL_law_190 ?_
        obtain ⟨hi9, hf⟩ := grd hf
        refine rw_sc hg dL_law_191 (inB_in hi9) ?_
        refine rw_aload_n dL_law_192 1 rfl rfl ?_
        refine rw_iload dL_law_193 5 rfl ?_
        refine rw_iconst (v := 2) dL_law_195 (by decide) ?_
        refine rw_iadd dL_law_196 ?_
        obtain ⟨hi10, hf⟩ := grd hf
        refine rw_sc hg dL_law_197 (inB_in hi10) ?_
        refine rw_aload_n dL_law_198 1 rfl rfl ?_
        refine rw_iload dL_law_199 5 rfl ?_
        refine rw_iconst (v := 3) dL_law_201 (by decide) ?_
        refine rw_iadd dL_law_202 ?_
        obtain ⟨hi11, hf⟩ := grd hf
        refine rw_sc hg dL_law_203 (inB_in hi11) ?_
        obtain ⟨q12, hq12, hf⟩ := bnd hf
        refine kV_I (ad := ad) (As := [.int (g.2.2 (v4 + 1).toNatClampNeg), .int (g.2.2 (v4 + 2).toNatClampNeg), .int (g.2.2 (v4 + 3).toNatClampNeg)]) (st := []) dL_law_204 calX12_boring wm1605 wm1606 wm1607 rfl rfl (rc_43 hr) (ci := 12) (by decide) rfl rfl (Nat.le_of_ble_eq_true rfl) ⟨⟨by decide, by decide⟩, by show (cc + 1) + 0 ≤ 601024; omega, by show (cs + 6) + 0 ≤ 7293034; omega⟩ (cmX12_boring hr hq12) (fun h hr => ?_)
        refine nmI hf (fun x13 hf => ?_)
        refine rw_istore (lv2 := [(6, .int x13), (5, .int x8), (0, .ref G.2.2.2.1.1), (1, .ref (ad 0)), (2, .ref (ad 43)), (3, .ref (ad 42)), (4, .int v4)]) dL_law_207 (by decide) rfl ?_
        refine rw_aload_n dL_law_209 4 rfl rfl ?_
        obtain ⟨q14, hq14, hf⟩ := bnd hf
        refine kV_I (ad := ad) (As := []) (st := []) dL_law_210 calX12_thrown wm1601 wm1602 wm1603 rfl rfl (rc_43 hr) (ci := 12) (by decide) rfl rfl (Nat.le_of_ble_eq_true rfl) ⟨⟨by decide, by decide⟩, by show (cc + 1) + 0 ≤ 601024; omega, by show (cs + 6) + 0 ≤ 7293034; omega⟩ (cmX12_thrown hr hq14) (fun h hr => ?_)
        refine rw_iload dL_law_213 1 rfl ?_
        refine rw_icmp_eq (tgt := 220) dL_law_215 (by decide) (fun c15 => ?_) (fun c15 => ?_)
        · rw [if_pos c15] at hf
          refine rw_iload dL_law_220 1 rfl ?_
          refine rw_if_ne (tgt := 237) dL_law_222 (by decide) (fun c16 => ?_) (fun c16 => ?_)
          · rw [if_neg c16] at hf
            refine rw_goto (tgt := 1682) dL_law_237 (by decide) ?_
            refine rw_iinc (v := v4 + 6) (lv2 := [(4, .int (v4 + 6)), (6, .int x13), (5, .int x8), (0, .ref G.2.2.2.1.1), (1, .ref (ad 0)), (2, .ref (ad 43)), (3, .ref (ad 42))]) dL_law_1682 6 rfl rfl (by decide) rfl ?_
            refine nmL hf (fun x17 hf => ?_)
            refine rw_goto (tgt := 23) dL_law_1685 (by decide) ?_
            refine rw_sub [3, 4, 5, 6, 0] rfl ?_
            exact ih (cc + 1) (cs + 6) (bud (c := 1) hbc (by decide)) (bud (c := 6) hbs (by decide)) x17 q14.2 _ hr hf
          · rw [if_pos c16] at hf
            refine rw_aload_n dL_law_225 5 rfl rfl ?_
            refine rw_iconst (v := 0) dL_law_226 (by decide) ?_
            obtain ⟨hi18, hf⟩ := grd hf
            refine sl_42 hr dL_law_227 (inB_in hi18) ?_
            refine rw_iload dL_law_228 0 rfl ?_
            refine rw_i2l dL_law_230 ?_
            refine rw_lcmp dL_law_231 ?_
            refine rw_if_eq (tgt := 237) dL_law_232 (by decide) (fun c19 => ?_) (fun c19 => ?_)
            · rw [if_pos c19] at hf
              refine rw_goto (tgt := 1682) dL_law_237 (by decide) ?_
              refine rw_iinc (v := v4 + 6) (lv2 := [(4, .int (v4 + 6)), (6, .int x13), (5, .int x8), (0, .ref G.2.2.2.1.1), (1, .ref (ad 0)), (2, .ref (ad 43)), (3, .ref (ad 42))]) dL_law_1682 6 rfl rfl (by decide) rfl ?_
              refine nmL hf (fun x20 hf => ?_)
              refine rw_goto (tgt := 23) dL_law_1685 (by decide) ?_
              refine rw_sub [3, 4, 5, 6, 0] rfl ?_
              exact ih (cc + 1) (cs + 6) (bud (c := 1) hbc (by decide)) (bud (c := 6) hbs (by decide)) x20 q14.2 _ hr hf
            · rw [if_neg c19] at hf
              refine rw_iconst (v := 0) dL_law_235 (by decide) ?_
              replace hf := Option.some.inj hf
              subst hf
              exact rw_zreturn dL_law_236 rfl (by decide) (hQ _ hr) (by show (cc + 1) ≤ 601024; omega) (by show (cs + 6) ≤ 7293034; omega)
        · rw [if_neg c15] at hf
          refine rw_iconst (v := 0) dL_law_218 (by decide) ?_
          replace hf := Option.some.inj hf
          subst hf
          exact rw_zreturn dL_law_219 rfl (by decide) (hQ _ hr) (by show (cc + 1) ≤ 601024; omega) (by show (cs + 6) ≤ 7293034; omega)
      rw [if_neg c3] at hf
      by_cases c21 : ((g.2.2 v4.toNatClampNeg) &&& 31) = 1
      · rw [if_pos c21] at hf
        refine rw_top c21 (rw_tableIn (off := 200) (tgt := 240) dL_law_40 (by decide) (by decide) rfl (by decide) ?_)
        refine rw_aload_n dL_law_240 1 rfl rfl ?_
        refine rw_aload_n dL_law_241 0 rfl rfl ?_
        refine rw_iload dL_law_242 4 rfl ?_
        refine rw_iconst (v := 1) dL_law_244 (by decide) ?_
        refine rw_iadd dL_law_245 ?_
        obtain ⟨hi22, hf⟩ := grd hf
        refine rw_sc hg dL_law_246 (inB_in hi22) ?_
        refine rw_aload_n dL_law_247 0 rfl rfl ?_
        refine rw_iload dL_law_248 4 rfl ?_
        refine rw_iconst (v := 2) dL_law_250 (by decide) ?_
        refine rw_iadd dL_law_251 ?_
        obtain ⟨hi23, hf⟩ := grd hf
        refine rw_sc hg dL_law_252 (inB_in hi23) ?_
        refine rw_aload_n dL_law_253 0 rfl rfl ?_
        refine rw_iload dL_law_254 4 rfl ?_
        refine rw_iconst (v := 3) dL_law_256 (by decide) ?_
        refine rw_iadd dL_law_257 ?_
        obtain ⟨hi24, hf⟩ := grd hf
        refine rw_sc hg dL_law_258 (inB_in hi24) ?_
        refine rw_aload_n dL_law_259 3 rfl rfl ?_
        obtain ⟨q25, hq25, hf⟩ := bnd hf
        refine kW_I (ad := ad) (As := [.ref (ad 0), .int (g.2.2 (v4 + 1).toNatClampNeg), .int (g.2.2 (v4 + 2).toNatClampNeg), .int (g.2.2 (v4 + 3).toNatClampNeg), .ref (ad 42)]) (st := []) dL_law_260 calL_layer wm907 wm908 rfl rfl (Nat.le_of_ble_eq_true rfl) ⟨⟨by decide, by decide⟩, by show cc + 2 ≤ 601024; omega, by show cs + 12 ≤ 7293034; omega⟩ (cmL_layer hr hq25) (fun h hr => ?_)
        refine nmI hf (fun x26 hf => ?_)
        refine rw_istore (lv2 := [(5, .int x26), (0, .ref G.2.2.2.1.1), (1, .ref (ad 0)), (2, .ref (ad 43)), (3, .ref (ad 42)), (4, .int v4)]) dL_law_263 (by decide) rfl ?_
        refine rw_aload_n dL_law_265 3 rfl rfl ?_
        refine rw_aload_n dL_law_266 1 rfl rfl ?_
        refine rw_iload dL_law_267 5 rfl ?_
        refine rw_iconst (v := 1) dL_law_269 (by decide) ?_
        refine rw_iadd dL_law_270 ?_
        obtain ⟨hi27, hf⟩ := grd hf
        refine rw_sc hg dL_law_271 (inB_in hi27) ?_
        refine rw_aload_n dL_law_272 1 rfl rfl ?_
        refine rw_iload dL_law_273 5 rfl ?_
        refine rw_iconst (v := 2) dL_law_275 (by decide) ?_
        refine rw_iadd dL_law_276 ?_
        obtain ⟨hi28, hf⟩ := grd hf
        refine rw_sc hg dL_law_277 (inB_in hi28) ?_
        refine rw_aload_n dL_law_278 1 rfl rfl ?_
        refine rw_iload dL_law_279 5 rfl ?_
        refine rw_iconst (v := 3) dL_law_281 (by decide) ?_
        refine rw_iadd dL_law_282 ?_
        obtain ⟨hi29, hf⟩ := grd hf
        refine rw_sc hg dL_law_283 (inB_in hi29) ?_
        obtain ⟨q30, hq30, hf⟩ := bnd hf
        refine kV_I (ad := ad) (As := [.int (g.2.2 (v4 + 1).toNatClampNeg), .int (g.2.2 (v4 + 2).toNatClampNeg), .int (g.2.2 (v4 + 3).toNatClampNeg)]) (st := []) dL_law_284 calX12_layer wm1621 wm1622 wm1623 rfl rfl (rc_43 hr) (ci := 12) (by decide) rfl rfl (Nat.le_of_ble_eq_true rfl) ⟨⟨by decide, by decide⟩, by show (cc + 2) + 0 ≤ 601024; omega, by show (cs + 12) + 0 ≤ 7293034; omega⟩ (cmX12_layer hr hq30) (fun h hr => ?_)
        refine nmI hf (fun x31 hf => ?_)
        refine rw_istore (lv2 := [(6, .int x31), (5, .int x26), (0, .ref G.2.2.2.1.1), (1, .ref (ad 0)), (2, .ref (ad 43)), (3, .ref (ad 42)), (4, .int v4)]) dL_law_287 (by decide) rfl ?_
        refine rw_aload_n dL_law_289 4 rfl rfl ?_
        obtain ⟨q32, hq32, hf⟩ := bnd hf
        refine kV_I (ad := ad) (As := []) (st := []) dL_law_290 calX12_thrown wm1601 wm1602 wm1603 rfl rfl (rc_43 hr) (ci := 12) (by decide) rfl rfl (Nat.le_of_ble_eq_true rfl) ⟨⟨by decide, by decide⟩, by show (cc + 2) + 0 ≤ 601024; omega, by show (cs + 12) + 0 ≤ 7293034; omega⟩ (cmX12_thrown hr hq32) (fun h hr => ?_)
        refine rw_iload dL_law_293 1 rfl ?_
        refine rw_icmp_eq (tgt := 300) dL_law_295 (by decide) (fun c33 => ?_) (fun c33 => ?_)
        · rw [if_pos c33] at hf
          refine rw_iload dL_law_300 1 rfl ?_
          refine rw_if_ne (tgt := 317) dL_law_302 (by decide) (fun c34 => ?_) (fun c34 => ?_)
          · rw [if_neg c34] at hf
            refine rw_goto (tgt := 1682) dL_law_317 (by decide) ?_
            refine rw_iinc (v := v4 + 6) (lv2 := [(4, .int (v4 + 6)), (6, .int x31), (5, .int x26), (0, .ref G.2.2.2.1.1), (1, .ref (ad 0)), (2, .ref (ad 43)), (3, .ref (ad 42))]) dL_law_1682 6 rfl rfl (by decide) rfl ?_
            refine nmL hf (fun x35 hf => ?_)
            refine rw_goto (tgt := 23) dL_law_1685 (by decide) ?_
            refine rw_sub [3, 4, 5, 6, 0] rfl ?_
            exact ih (cc + 2) (cs + 12) (bud (c := 2) hbc (by decide)) (bud (c := 12) hbs (by decide)) x35 q32.2 _ hr hf
          · rw [if_pos c34] at hf
            refine rw_aload_n dL_law_305 5 rfl rfl ?_
            refine rw_iconst (v := 0) dL_law_306 (by decide) ?_
            obtain ⟨hi36, hf⟩ := grd hf
            refine sl_42 hr dL_law_307 (inB_in hi36) ?_
            refine rw_iload dL_law_308 0 rfl ?_
            refine rw_i2l dL_law_310 ?_
            refine rw_lcmp dL_law_311 ?_
            refine rw_if_eq (tgt := 317) dL_law_312 (by decide) (fun c37 => ?_) (fun c37 => ?_)
            · rw [if_pos c37] at hf
              refine rw_goto (tgt := 1682) dL_law_317 (by decide) ?_
              refine rw_iinc (v := v4 + 6) (lv2 := [(4, .int (v4 + 6)), (6, .int x31), (5, .int x26), (0, .ref G.2.2.2.1.1), (1, .ref (ad 0)), (2, .ref (ad 43)), (3, .ref (ad 42))]) dL_law_1682 6 rfl rfl (by decide) rfl ?_
              refine nmL hf (fun x38 hf => ?_)
              refine rw_goto (tgt := 23) dL_law_1685 (by decide) ?_
              refine rw_sub [3, 4, 5, 6, 0] rfl ?_
              exact ih (cc + 2) (cs + 12) (bud (c := 2) hbc (by decide)) (bud (c := 12) hbs (by decide)) x38 q32.2 _ hr hf
            · rw [if_neg c37] at hf
              refine rw_iconst (v := 0) dL_law_315 (by decide) ?_
              replace hf := Option.some.inj hf
              subst hf
              exact rw_zreturn dL_law_316 rfl (by decide) (hQ _ hr) (by show (cc + 2) ≤ 601024; omega) (by show (cs + 12) ≤ 7293034; omega)
        · rw [if_neg c33] at hf
          refine rw_iconst (v := 0) dL_law_298 (by decide) ?_
          replace hf := Option.some.inj hf
          subst hf
          exact rw_zreturn dL_law_299 rfl (by decide) (hQ _ hr) (by show (cc + 2) ≤ 601024; omega) (by show (cs + 12) ≤ 7293034; omega)
      rw [if_neg c21] at hf
      by_cases c39 : ((g.2.2 v4.toNatClampNeg) &&& 31) = 2
      · rw [if_pos c39] at hf
        refine rw_top c39 (rw_tableIn (off := 280) (tgt := 320) dL_law_40 (by decide) (by decide) rfl (by decide) ?_)
        refine rw_aload_n dL_law_320 1 rfl rfl ?_
        refine rw_aload_n dL_law_321 0 rfl rfl ?_
        refine rw_iload dL_law_322 4 rfl ?_
        refine rw_iconst (v := 1) dL_law_324 (by decide) ?_
        refine rw_iadd dL_law_325 ?_
        obtain ⟨hi40, hf⟩ := grd hf
        refine rw_sc hg dL_law_326 (inB_in hi40) ?_
        refine rw_aload_n dL_law_327 0 rfl rfl ?_
        refine rw_iload dL_law_328 4 rfl ?_
        refine rw_iconst (v := 2) dL_law_330 (by decide) ?_
        refine rw_iadd dL_law_331 ?_
        obtain ⟨hi41, hf⟩ := grd hf
        refine rw_sc hg dL_law_332 (inB_in hi41) ?_
        obtain ⟨q42, hq42, hf⟩ := bnd hf
        refine kV_I (ad := ad) (As := [.int (g.2.2 (v4 + 1).toNatClampNeg), .int (g.2.2 (v4 + 2).toNatClampNeg)]) (st := []) dL_law_333 calX11_age wm482 wm483 wm484 rfl rfl (rc_0 hr) (ci := 11) (by decide) rfl rfl (Nat.le_of_ble_eq_true rfl) ⟨⟨by decide, by decide⟩, by show cc + 0 ≤ 601024; omega, by show cs + 0 ≤ 7293034; omega⟩ (cmX11_age hr hq42) (fun h hr => ?_)
        refine rw_aload_n dL_law_336 2 rfl rfl ?_
        refine rw_aload_n dL_law_337 0 rfl rfl ?_
        refine rw_iload dL_law_338 4 rfl ?_
        refine rw_iconst (v := 1) dL_law_340 (by decide) ?_
        refine rw_iadd dL_law_341 ?_
        obtain ⟨hi43, hf⟩ := grd hf
        refine rw_sc hg dL_law_342 (inB_in hi43) ?_
        refine rw_aload_n dL_law_343 0 rfl rfl ?_
        refine rw_iload dL_law_344 4 rfl ?_
        refine rw_iconst (v := 2) dL_law_346 (by decide) ?_
        refine rw_iadd dL_law_347 ?_
        obtain ⟨hi44, hf⟩ := grd hf
        refine rw_sc hg dL_law_348 (inB_in hi44) ?_
        obtain ⟨q45, hq45, hf⟩ := bnd hf
        refine kV_I (ad := ad) (As := [.int (g.2.2 (v4 + 1).toNatClampNeg), .int (g.2.2 (v4 + 2).toNatClampNeg)]) (st := [.int q42.1]) dL_law_349 calX12_age wm1629 wm1630 wm1631 rfl rfl (rc_43 hr) (ci := 12) (by decide) rfl rfl (Nat.le_of_ble_eq_true rfl) ⟨⟨by decide, by decide⟩, by show cc + 0 ≤ 601024; omega, by show cs + 0 ≤ 7293034; omega⟩ (cmX12_age hr hq45) (fun h hr => ?_)
        refine rw_icmp_eq (tgt := 1682) dL_law_352 (by decide) (fun c46 => ?_) (fun c46 => ?_)
        · rw [if_pos c46] at hf
          refine rw_iinc (v := v4 + 6) (lv2 := [(4, .int (v4 + 6)), (0, .ref G.2.2.2.1.1), (1, .ref (ad 0)), (2, .ref (ad 43)), (3, .ref (ad 42))]) dL_law_1682 4 rfl rfl (by decide) rfl ?_
          refine nmL hf (fun x47 hf => ?_)
          refine rw_goto (tgt := 23) dL_law_1685 (by decide) ?_
          refine rw_sub [1, 2, 3, 4, 0] rfl ?_
          exact ih cc cs (bud0 hbc) (bud0 hbs) x47 q45.2 _ hr hf
        · rw [if_neg c46] at hf
          refine rw_iconst (v := 0) dL_law_355 (by decide) ?_
          replace hf := Option.some.inj hf
          subst hf
          exact rw_zreturn dL_law_356 rfl (by decide) (hQ _ hr) (by show cc ≤ 601024; omega) (by show cs ≤ 7293034; omega)
      rw [if_neg c39] at hf
      by_cases c48 : ((g.2.2 v4.toNatClampNeg) &&& 31) = 3
      · rw [if_pos c48] at hf
        refine rw_top c48 (rw_tableIn (off := 317) (tgt := 357) dL_law_40 (by decide) (by decide) rfl (by decide) ?_)
        refine rw_aload_n dL_law_357 1 rfl rfl ?_
        refine rw_aload_n dL_law_358 0 rfl rfl ?_
        refine rw_iload dL_law_359 4 rfl ?_
        refine rw_iconst (v := 1) dL_law_361 (by decide) ?_
        refine rw_iadd dL_law_362 ?_
        obtain ⟨hi49, hf⟩ := grd hf
        refine rw_sc hg dL_law_363 (inB_in hi49) ?_
        refine rw_aload_n dL_law_364 0 rfl rfl ?_
        refine rw_iload dL_law_365 4 rfl ?_
        refine rw_iconst (v := 2) dL_law_367 (by decide) ?_
        refine rw_iadd dL_law_368 ?_
        obtain ⟨hi50, hf⟩ := grd hf
        refine rw_sc hg dL_law_369 (inB_in hi50) ?_
        refine rw_aload_n dL_law_370 0 rfl rfl ?_
        refine rw_iload dL_law_371 4 rfl ?_
        refine rw_iconst (v := 3) dL_law_373 (by decide) ?_
        refine rw_iadd dL_law_374 ?_
        obtain ⟨hi51, hf⟩ := grd hf
        refine rw_sc hg dL_law_375 (inB_in hi51) ?_
        refine rw_aload_n dL_law_376 0 rfl rfl ?_
        refine rw_iload dL_law_377 4 rfl ?_
        refine rw_iconst (v := 4) dL_law_379 (by decide) ?_
        refine rw_iadd dL_law_380 ?_
        obtain ⟨hi52, hf⟩ := grd hf
        refine rw_sc hg dL_law_381 (inB_in hi52) ?_
        obtain ⟨q53, hq53, hf⟩ := bnd hf
        refine kV_I (ad := ad) (As := [.int (g.2.2 (v4 + 1).toNatClampNeg), .int (g.2.2 (v4 + 2).toNatClampNeg), .int (g.2.2 (v4 + 3).toNatClampNeg), .int (g.2.2 (v4 + 4).toNatClampNeg)]) (st := []) dL_law_382 calX11_fault wm492 wm493 wm494 rfl rfl (rc_0 hr) (ci := 11) (by decide) rfl rfl (Nat.le_of_ble_eq_true rfl) ⟨⟨by decide, by decide⟩, by show cc + 0 ≤ 601024; omega, by show cs + 0 ≤ 7293034; omega⟩ (cmX11_fault hr hq53) (fun h hr => ?_)
        refine rw_aload_n dL_law_385 2 rfl rfl ?_
        refine rw_aload_n dL_law_386 0 rfl rfl ?_
        refine rw_iload dL_law_387 4 rfl ?_
        refine rw_iconst (v := 1) dL_law_389 (by decide) ?_
        refine rw_iadd dL_law_390 ?_
        obtain ⟨hi54, hf⟩ := grd hf
        refine rw_sc hg dL_law_391 (inB_in hi54) ?_
        refine rw_aload_n dL_law_392 0 rfl rfl ?_
        refine rw_iload dL_law_393 4 rfl ?_
        refine rw_iconst (v := 2) dL_law_395 (by decide) ?_
        refine rw_iadd dL_law_396 ?_
        obtain ⟨hi55, hf⟩ := grd hf
        refine rw_sc hg dL_law_397 (inB_in hi55) ?_
        refine rw_aload_n dL_law_398 0 rfl rfl ?_
        refine rw_iload dL_law_399 4 rfl ?_
        refine rw_iconst (v := 3) dL_law_401 (by decide) ?_
        refine rw_iadd dL_law_402 ?_
        obtain ⟨hi56, hf⟩ := grd hf
        refine rw_sc hg dL_law_403 (inB_in hi56) ?_
        refine rw_aload_n dL_law_404 0 rfl rfl ?_
        refine rw_iload dL_law_405 4 rfl ?_
        refine rw_iconst (v := 4) dL_law_407 (by decide) ?_
        refine rw_iadd dL_law_408 ?_
        obtain ⟨hi57, hf⟩ := grd hf
        refine rw_sc hg dL_law_409 (inB_in hi57) ?_
        obtain ⟨q58, hq58, hf⟩ := bnd hf
        refine kV_I (ad := ad) (As := [.int (g.2.2 (v4 + 1).toNatClampNeg), .int (g.2.2 (v4 + 2).toNatClampNeg), .int (g.2.2 (v4 + 3).toNatClampNeg), .int (g.2.2 (v4 + 4).toNatClampNeg)]) (st := [.int q53.1]) dL_law_410 calX12_fault wm1633 wm1634 wm1635 rfl rfl (rc_43 hr) (ci := 12) (by decide) rfl rfl (Nat.le_of_ble_eq_true rfl) ⟨⟨by decide, by decide⟩, by show cc + 0 ≤ 601024; omega, by show cs + 0 ≤ 7293034; omega⟩ (cmX12_fault hr hq58) (fun h hr => ?_)
        refine rw_icmp_eq (tgt := 1682) dL_law_413 (by decide) (fun c59 => ?_) (fun c59 => ?_)
        · rw [if_pos c59] at hf
          refine rw_iinc (v := v4 + 6) (lv2 := [(4, .int (v4 + 6)), (0, .ref G.2.2.2.1.1), (1, .ref (ad 0)), (2, .ref (ad 43)), (3, .ref (ad 42))]) dL_law_1682 4 rfl rfl (by decide) rfl ?_
          refine nmL hf (fun x60 hf => ?_)
          refine rw_goto (tgt := 23) dL_law_1685 (by decide) ?_
          refine rw_sub [1, 2, 3, 4, 0] rfl ?_
          exact ih cc cs (bud0 hbc) (bud0 hbs) x60 q58.2 _ hr hf
        · rw [if_neg c59] at hf
          refine rw_iconst (v := 0) dL_law_416 (by decide) ?_
          replace hf := Option.some.inj hf
          subst hf
          exact rw_zreturn dL_law_417 rfl (by decide) (hQ _ hr) (by show cc ≤ 601024; omega) (by show cs ≤ 7293034; omega)
      rw [if_neg c48] at hf
      by_cases c61 : ((g.2.2 v4.toNatClampNeg) &&& 31) = 4
      · rw [if_pos c61] at hf
        refine rw_top c61 (rw_tableIn (off := 378) (tgt := 418) dL_law_40 (by decide) (by decide) rfl (by decide) ?_)
        refine rw_aload_n dL_law_418 1 rfl rfl ?_
        refine rw_aload_n dL_law_419 0 rfl rfl ?_
        refine rw_iload dL_law_420 4 rfl ?_
        refine rw_iconst (v := 1) dL_law_422 (by decide) ?_
        refine rw_iadd dL_law_423 ?_
        obtain ⟨hi62, hf⟩ := grd hf
        refine rw_sc hg dL_law_424 (inB_in hi62) ?_
        obtain ⟨q63, hq63, hf⟩ := bnd hf
        refine kV_I (ad := ad) (As := [.int (g.2.2 (v4 + 1).toNatClampNeg)]) (st := []) dL_law_425 calX11_lens wm507 wm508 wm509 rfl rfl (rc_0 hr) (ci := 11) (by decide) rfl rfl (Nat.le_of_ble_eq_true rfl) ⟨⟨by decide, by decide⟩, by show cc + 0 ≤ 601024; omega, by show cs + 0 ≤ 7293034; omega⟩ (cmX11_lens hr hq63) (fun h hr => ?_)
        refine rw_aload_n dL_law_428 2 rfl rfl ?_
        refine rw_aload_n dL_law_429 0 rfl rfl ?_
        refine rw_iload dL_law_430 4 rfl ?_
        refine rw_iconst (v := 1) dL_law_432 (by decide) ?_
        refine rw_iadd dL_law_433 ?_
        obtain ⟨hi64, hf⟩ := grd hf
        refine rw_sc hg dL_law_434 (inB_in hi64) ?_
        obtain ⟨q65, hq65, hf⟩ := bnd hf
        refine kV_I (ad := ad) (As := [.int (g.2.2 (v4 + 1).toNatClampNeg)]) (st := [.int q63.1]) dL_law_435 calX12_lens wm1637 wm1638 wm1639 rfl rfl (rc_43 hr) (ci := 12) (by decide) rfl rfl (Nat.le_of_ble_eq_true rfl) ⟨⟨by decide, by decide⟩, by show cc + 0 ≤ 601024; omega, by show cs + 0 ≤ 7293034; omega⟩ (cmX12_lens hr hq65) (fun h hr => ?_)
        refine rw_icmp_eq (tgt := 1682) dL_law_438 (by decide) (fun c66 => ?_) (fun c66 => ?_)
        · rw [if_pos c66] at hf
          refine rw_iinc (v := v4 + 6) (lv2 := [(4, .int (v4 + 6)), (0, .ref G.2.2.2.1.1), (1, .ref (ad 0)), (2, .ref (ad 43)), (3, .ref (ad 42))]) dL_law_1682 4 rfl rfl (by decide) rfl ?_
          refine nmL hf (fun x67 hf => ?_)
          refine rw_goto (tgt := 23) dL_law_1685 (by decide) ?_
          refine rw_sub [1, 2, 3, 4, 0] rfl ?_
          exact ih cc cs (bud0 hbc) (bud0 hbs) x67 q65.2 _ hr hf
        · rw [if_neg c66] at hf
          refine rw_iconst (v := 0) dL_law_441 (by decide) ?_
          replace hf := Option.some.inj hf
          subst hf
          exact rw_zreturn dL_law_442 rfl (by decide) (hQ _ hr) (by show cc ≤ 601024; omega) (by show cs ≤ 7293034; omega)
      rw [if_neg c61] at hf
      by_cases c68 : ((g.2.2 v4.toNatClampNeg) &&& 31) = 5
      · rw [if_pos c68] at hf
        refine rw_top c68 (rw_tableIn (off := 403) (tgt := 443) dL_law_40 (by decide) (by decide) rfl (by decide) ?_)
        refine rw_aload_n dL_law_443 1 rfl rfl ?_
        refine rw_aload_n dL_law_444 0 rfl rfl ?_
        refine rw_iload dL_law_445 4 rfl ?_
        refine rw_iconst (v := 1) dL_law_447 (by decide) ?_
        refine rw_iadd dL_law_448 ?_
        obtain ⟨hi69, hf⟩ := grd hf
        refine rw_sc hg dL_law_449 (inB_in hi69) ?_
        refine rw_aload_n dL_law_450 0 rfl rfl ?_
        refine rw_iload dL_law_451 4 rfl ?_
        refine rw_iconst (v := 2) dL_law_453 (by decide) ?_
        refine rw_iadd dL_law_454 ?_
        obtain ⟨hi70, hf⟩ := grd hf
        refine rw_sc hg dL_law_455 (inB_in hi70) ?_
        refine rw_aload_n dL_law_456 0 rfl rfl ?_
        refine rw_iload dL_law_457 4 rfl ?_
        refine rw_iconst (v := 3) dL_law_459 (by decide) ?_
        refine rw_iadd dL_law_460 ?_
        obtain ⟨hi71, hf⟩ := grd hf
        refine rw_sc hg dL_law_461 (inB_in hi71) ?_
        obtain ⟨q72, hq72, hf⟩ := bnd hf
        refine kV_I (ad := ad) (As := [.int (g.2.2 (v4 + 1).toNatClampNeg), .int (g.2.2 (v4 + 2).toNatClampNeg), .int (g.2.2 (v4 + 3).toNatClampNeg)]) (st := []) dL_law_462 calX11_water wm511 wm512 wm513 rfl rfl (rc_0 hr) (ci := 11) (by decide) rfl rfl (Nat.le_of_ble_eq_true rfl) ⟨⟨by decide, by decide⟩, by show cc + 0 ≤ 601024; omega, by show cs + 0 ≤ 7293034; omega⟩ (cmX11_water hr hq72) (fun h hr => ?_)
        refine rw_aload_n dL_law_465 2 rfl rfl ?_
        refine rw_aload_n dL_law_466 0 rfl rfl ?_
        refine rw_iload dL_law_467 4 rfl ?_
        refine rw_iconst (v := 1) dL_law_469 (by decide) ?_
        refine rw_iadd dL_law_470 ?_
        obtain ⟨hi73, hf⟩ := grd hf
        refine rw_sc hg dL_law_471 (inB_in hi73) ?_
        refine rw_aload_n dL_law_472 0 rfl rfl ?_
        refine rw_iload dL_law_473 4 rfl ?_
        refine rw_iconst (v := 2) dL_law_475 (by decide) ?_
        refine rw_iadd dL_law_476 ?_
        obtain ⟨hi74, hf⟩ := grd hf
        refine rw_sc hg dL_law_477 (inB_in hi74) ?_
        refine rw_aload_n dL_law_478 0 rfl rfl ?_
        refine rw_iload dL_law_479 4 rfl ?_
        refine rw_iconst (v := 3) dL_law_481 (by decide) ?_
        refine rw_iadd dL_law_482 ?_
        obtain ⟨hi75, hf⟩ := grd hf
        refine rw_sc hg dL_law_483 (inB_in hi75) ?_
        obtain ⟨q76, hq76, hf⟩ := bnd hf
        refine kV_I (ad := ad) (As := [.int (g.2.2 (v4 + 1).toNatClampNeg), .int (g.2.2 (v4 + 2).toNatClampNeg), .int (g.2.2 (v4 + 3).toNatClampNeg)]) (st := [.int q72.1]) dL_law_484 calX12_water wm1641 wm1642 wm1643 rfl rfl (rc_43 hr) (ci := 12) (by decide) rfl rfl (Nat.le_of_ble_eq_true rfl) ⟨⟨by decide, by decide⟩, by show cc + 0 ≤ 601024; omega, by show cs + 0 ≤ 7293034; omega⟩ (cmX12_water hr hq76) (fun h hr => ?_)
        refine rw_icmp_eq (tgt := 1682) dL_law_487 (by decide) (fun c77 => ?_) (fun c77 => ?_)
        · rw [if_pos c77] at hf
          refine rw_iinc (v := v4 + 6) (lv2 := [(4, .int (v4 + 6)), (0, .ref G.2.2.2.1.1), (1, .ref (ad 0)), (2, .ref (ad 43)), (3, .ref (ad 42))]) dL_law_1682 4 rfl rfl (by decide) rfl ?_
          refine nmL hf (fun x78 hf => ?_)
          refine rw_goto (tgt := 23) dL_law_1685 (by decide) ?_
          refine rw_sub [1, 2, 3, 4, 0] rfl ?_
          exact ih cc cs (bud0 hbc) (bud0 hbs) x78 q76.2 _ hr hf
        · rw [if_neg c77] at hf
          refine rw_iconst (v := 0) dL_law_490 (by decide) ?_
          replace hf := Option.some.inj hf
          subst hf
          exact rw_zreturn dL_law_491 rfl (by decide) (hQ _ hr) (by show cc ≤ 601024; omega) (by show cs ≤ 7293034; omega)
      rw [if_neg c68] at hf
      by_cases c79 : ((g.2.2 v4.toNatClampNeg) &&& 31) = 6
      · rw [if_pos c79] at hf
        refine rw_top c79 (rw_tableIn (off := 452) (tgt := 492) dL_law_40 (by decide) (by decide) rfl (by decide) ?_)
        refine rw_aload_n dL_law_492 1 rfl rfl ?_
        refine rw_aload_n dL_law_493 0 rfl rfl ?_
        refine rw_iload dL_law_494 4 rfl ?_
        refine rw_iconst (v := 1) dL_law_496 (by decide) ?_
        refine rw_iadd dL_law_497 ?_
        obtain ⟨hi80, hf⟩ := grd hf
        refine rw_sc hg dL_law_498 (inB_in hi80) ?_
        obtain ⟨q81, hq81, hf⟩ := bnd hf
        refine kV_I (ad := ad) (As := [.int (g.2.2 (v4 + 1).toNatClampNeg)]) (st := []) dL_law_499 calX11_within wm535 wm536 wm537 rfl rfl (rc_0 hr) (ci := 11) (by decide) rfl rfl (Nat.le_of_ble_eq_true rfl) ⟨⟨by decide, by decide⟩, by show cc + 0 ≤ 601024; omega, by show cs + 0 ≤ 7293034; omega⟩ (cmX11_within hr hq81) (fun h hr => ?_)
        refine rw_aload_n dL_law_502 2 rfl rfl ?_
        refine rw_aload_n dL_law_503 0 rfl rfl ?_
        refine rw_iload dL_law_504 4 rfl ?_
        refine rw_iconst (v := 1) dL_law_506 (by decide) ?_
        refine rw_iadd dL_law_507 ?_
        obtain ⟨hi82, hf⟩ := grd hf
        refine rw_sc hg dL_law_508 (inB_in hi82) ?_
        obtain ⟨q83, hq83, hf⟩ := bnd hf
        refine kV_I (ad := ad) (As := [.int (g.2.2 (v4 + 1).toNatClampNeg)]) (st := [.int q81.1]) dL_law_509 calX12_within wm1645 wm1646 wm1647 rfl rfl (rc_43 hr) (ci := 12) (by decide) rfl rfl (Nat.le_of_ble_eq_true rfl) ⟨⟨by decide, by decide⟩, by show cc + 0 ≤ 601024; omega, by show cs + 0 ≤ 7293034; omega⟩ (cmX12_within hr hq83) (fun h hr => ?_)
        refine rw_icmp_eq (tgt := 1682) dL_law_512 (by decide) (fun c84 => ?_) (fun c84 => ?_)
        · rw [if_pos c84] at hf
          refine rw_iinc (v := v4 + 6) (lv2 := [(4, .int (v4 + 6)), (0, .ref G.2.2.2.1.1), (1, .ref (ad 0)), (2, .ref (ad 43)), (3, .ref (ad 42))]) dL_law_1682 4 rfl rfl (by decide) rfl ?_
          refine nmL hf (fun x85 hf => ?_)
          refine rw_goto (tgt := 23) dL_law_1685 (by decide) ?_
          refine rw_sub [1, 2, 3, 4, 0] rfl ?_
          exact ih cc cs (bud0 hbc) (bud0 hbs) x85 q83.2 _ hr hf
        · rw [if_neg c84] at hf
          refine rw_iconst (v := 0) dL_law_515 (by decide) ?_
          replace hf := Option.some.inj hf
          subst hf
          exact rw_zreturn dL_law_516 rfl (by decide) (hQ _ hr) (by show cc ≤ 601024; omega) (by show cs ≤ 7293034; omega)
      rw [if_neg c79] at hf
      by_cases c86 : ((g.2.2 v4.toNatClampNeg) &&& 31) = 7
      · rw [if_pos c86] at hf
        refine rw_top c86 (rw_tableIn (off := 477) (tgt := 517) dL_law_40 (by decide) (by decide) rfl (by decide) ?_)
        refine rw_aload_n dL_law_517 1 rfl rfl ?_
        obtain ⟨q87, hq87, hf⟩ := bnd hf
        refine kV_I (ad := ad) (As := []) (st := []) dL_law_518 calX11_run wm539 wm540 wm541 rfl rfl (rc_0 hr) (ci := 11) (by decide) rfl rfl (Nat.le_of_ble_eq_true rfl) ⟨⟨by decide, by decide⟩, by show cc + 0 ≤ 601024; omega, by show cs + 0 ≤ 7293034; omega⟩ (cmX11_run hr hq87) (fun h hr => ?_)
        refine rw_aload_n dL_law_521 2 rfl rfl ?_
        obtain ⟨q88, hq88, hf⟩ := bnd hf
        refine kV_I (ad := ad) (As := []) (st := [.int q87.1]) dL_law_522 calX12_run wm1649 wm1650 wm1651 rfl rfl (rc_43 hr) (ci := 12) (by decide) rfl rfl (Nat.le_of_ble_eq_true rfl) ⟨⟨by decide, by decide⟩, by show cc + 0 ≤ 601024; omega, by show cs + 0 ≤ 7293034; omega⟩ (cmX12_run hr hq88) (fun h hr => ?_)
        refine rw_icmp_eq (tgt := 1682) dL_law_525 (by decide) (fun c89 => ?_) (fun c89 => ?_)
        · rw [if_pos c89] at hf
          refine rw_iinc (v := v4 + 6) (lv2 := [(4, .int (v4 + 6)), (0, .ref G.2.2.2.1.1), (1, .ref (ad 0)), (2, .ref (ad 43)), (3, .ref (ad 42))]) dL_law_1682 4 rfl rfl (by decide) rfl ?_
          refine nmL hf (fun x90 hf => ?_)
          refine rw_goto (tgt := 23) dL_law_1685 (by decide) ?_
          refine rw_sub [1, 2, 3, 4, 0] rfl ?_
          exact ih cc cs (bud0 hbc) (bud0 hbs) x90 q88.2 _ hr hf
        · rw [if_neg c89] at hf
          refine rw_iconst (v := 0) dL_law_528 (by decide) ?_
          replace hf := Option.some.inj hf
          subst hf
          exact rw_zreturn dL_law_529 rfl (by decide) (hQ _ hr) (by show cc ≤ 601024; omega) (by show cs ≤ 7293034; omega)
      rw [if_neg c86] at hf
      by_cases c91 : ((g.2.2 v4.toNatClampNeg) &&& 31) = 8
      · rw [if_pos c91] at hf
        refine rw_top c91 (rw_tableIn (off := 490) (tgt := 530) dL_law_40 (by decide) (by decide) rfl (by decide) ?_)
        refine rw_aload_n dL_law_530 1 rfl rfl ?_
        refine rw_aload_n dL_law_531 0 rfl rfl ?_
        refine rw_iload dL_law_532 4 rfl ?_
        refine rw_iconst (v := 1) dL_law_534 (by decide) ?_
        refine rw_iadd dL_law_535 ?_
        obtain ⟨hi92, hf⟩ := grd hf
        refine rw_sc hg dL_law_536 (inB_in hi92) ?_
        refine rw_aload_n dL_law_537 3 rfl rfl ?_
        obtain ⟨q93, hq93, hf⟩ := bnd hf
        refine kW_I (ad := ad) (As := [.ref (ad 0), .int (g.2.2 (v4 + 1).toNatClampNeg), .ref (ad 42)]) (st := []) dL_law_538 calL_count wm941 wm942 rfl rfl (Nat.le_of_ble_eq_true rfl) ⟨⟨by decide, by decide⟩, by show cc + 4 ≤ 601024; omega, by show cs + 24 ≤ 7293034; omega⟩ (cmL_count hr hq93) (fun h hr => ?_)
        refine nmI hf (fun x94 hf => ?_)
        refine rw_istore (lv2 := [(5, .int x94), (0, .ref G.2.2.2.1.1), (1, .ref (ad 0)), (2, .ref (ad 43)), (3, .ref (ad 42)), (4, .int v4)]) dL_law_541 (by decide) rfl ?_
        refine rw_aload_n dL_law_543 3 rfl rfl ?_
        refine rw_aload_n dL_law_544 1 rfl rfl ?_
        refine rw_iload dL_law_545 5 rfl ?_
        refine rw_iconst (v := 1) dL_law_547 (by decide) ?_
        refine rw_iadd dL_law_548 ?_
        obtain ⟨hi95, hf⟩ := grd hf
        refine rw_sc hg dL_law_549 (inB_in hi95) ?_
        obtain ⟨q96, hq96, hf⟩ := bnd hf
        refine kV_I (ad := ad) (As := [.int (g.2.2 (v4 + 1).toNatClampNeg)]) (st := []) dL_law_550 calX12_count wm1720 wm1721 wm1722 rfl rfl (rc_43 hr) (ci := 12) (by decide) rfl rfl (Nat.le_of_ble_eq_true rfl) ⟨⟨by decide, by decide⟩, by show (cc + 4) + 0 ≤ 601024; omega, by show (cs + 24) + 0 ≤ 7293034; omega⟩ (cmX12_count hr hq96) (fun h hr => ?_)
        refine nmI hf (fun x97 hf => ?_)
        refine rw_istore (lv2 := [(6, .int x97), (5, .int x94), (0, .ref G.2.2.2.1.1), (1, .ref (ad 0)), (2, .ref (ad 43)), (3, .ref (ad 42)), (4, .int v4)]) dL_law_553 (by decide) rfl ?_
        refine rw_aload_n dL_law_555 4 rfl rfl ?_
        obtain ⟨q98, hq98, hf⟩ := bnd hf
        refine kV_I (ad := ad) (As := []) (st := []) dL_law_556 calX12_thrown wm1601 wm1602 wm1603 rfl rfl (rc_43 hr) (ci := 12) (by decide) rfl rfl (Nat.le_of_ble_eq_true rfl) ⟨⟨by decide, by decide⟩, by show (cc + 4) + 0 ≤ 601024; omega, by show (cs + 24) + 0 ≤ 7293034; omega⟩ (cmX12_thrown hr hq98) (fun h hr => ?_)
        refine rw_iload dL_law_559 1 rfl ?_
        refine rw_icmp_eq (tgt := 566) dL_law_561 (by decide) (fun c99 => ?_) (fun c99 => ?_)
        · rw [if_pos c99] at hf
          refine rw_iload dL_law_566 1 rfl ?_
          refine rw_if_ne (tgt := 583) dL_law_568 (by decide) (fun c100 => ?_) (fun c100 => ?_)
          · rw [if_neg c100] at hf
            refine rw_goto (tgt := 1682) dL_law_583 (by decide) ?_
            refine rw_iinc (v := v4 + 6) (lv2 := [(4, .int (v4 + 6)), (6, .int x97), (5, .int x94), (0, .ref G.2.2.2.1.1), (1, .ref (ad 0)), (2, .ref (ad 43)), (3, .ref (ad 42))]) dL_law_1682 6 rfl rfl (by decide) rfl ?_
            refine nmL hf (fun x101 hf => ?_)
            refine rw_goto (tgt := 23) dL_law_1685 (by decide) ?_
            refine rw_sub [3, 4, 5, 6, 0] rfl ?_
            exact ih (cc + 4) (cs + 24) (bud (c := 4) hbc (by decide)) (bud (c := 24) hbs (by decide)) x101 q98.2 _ hr hf
          · rw [if_pos c100] at hf
            refine rw_aload_n dL_law_571 5 rfl rfl ?_
            refine rw_iconst (v := 0) dL_law_572 (by decide) ?_
            obtain ⟨hi102, hf⟩ := grd hf
            refine sl_42 hr dL_law_573 (inB_in hi102) ?_
            refine rw_iload dL_law_574 0 rfl ?_
            refine rw_i2l dL_law_576 ?_
            refine rw_lcmp dL_law_577 ?_
            refine rw_if_eq (tgt := 583) dL_law_578 (by decide) (fun c103 => ?_) (fun c103 => ?_)
            · rw [if_pos c103] at hf
              refine rw_goto (tgt := 1682) dL_law_583 (by decide) ?_
              refine rw_iinc (v := v4 + 6) (lv2 := [(4, .int (v4 + 6)), (6, .int x97), (5, .int x94), (0, .ref G.2.2.2.1.1), (1, .ref (ad 0)), (2, .ref (ad 43)), (3, .ref (ad 42))]) dL_law_1682 6 rfl rfl (by decide) rfl ?_
              refine nmL hf (fun x104 hf => ?_)
              refine rw_goto (tgt := 23) dL_law_1685 (by decide) ?_
              refine rw_sub [3, 4, 5, 6, 0] rfl ?_
              exact ih (cc + 4) (cs + 24) (bud (c := 4) hbc (by decide)) (bud (c := 24) hbs (by decide)) x104 q98.2 _ hr hf
            · rw [if_neg c103] at hf
              refine rw_iconst (v := 0) dL_law_581 (by decide) ?_
              replace hf := Option.some.inj hf
              subst hf
              exact rw_zreturn dL_law_582 rfl (by decide) (hQ _ hr) (by show (cc + 4) ≤ 601024; omega) (by show (cs + 24) ≤ 7293034; omega)
        · rw [if_neg c99] at hf
          refine rw_iconst (v := 0) dL_law_564 (by decide) ?_
          replace hf := Option.some.inj hf
          subst hf
          exact rw_zreturn dL_law_565 rfl (by decide) (hQ _ hr) (by show (cc + 4) ≤ 601024; omega) (by show (cs + 24) ≤ 7293034; omega)
      rw [if_neg c91] at hf
      by_cases c105 : ((g.2.2 v4.toNatClampNeg) &&& 31) = 9
      · rw [if_pos c105] at hf
        refine rw_top c105 (rw_tableIn (off := 546) (tgt := 586) dL_law_40 (by decide) (by decide) rfl (by decide) ?_)
        refine rw_aload_n dL_law_586 1 rfl rfl ?_
        refine rw_aload_n dL_law_587 0 rfl rfl ?_
        refine rw_iload dL_law_588 4 rfl ?_
        refine rw_iconst (v := 1) dL_law_590 (by decide) ?_
        refine rw_iadd dL_law_591 ?_
        obtain ⟨hi106, hf⟩ := grd hf
        refine rw_sc hg dL_law_592 (inB_in hi106) ?_
        refine rw_aload_n dL_law_593 0 rfl rfl ?_
        refine rw_iload dL_law_594 4 rfl ?_
        refine rw_iconst (v := 2) dL_law_596 (by decide) ?_
        refine rw_iadd dL_law_597 ?_
        obtain ⟨hi107, hf⟩ := grd hf
        refine rw_sc hg dL_law_598 (inB_in hi107) ?_
        refine rw_aload_n dL_law_599 3 rfl rfl ?_
        obtain ⟨q108, hq108, hf⟩ := bnd hf
        refine kW_I (ad := ad) (As := [.ref (ad 0), .int (g.2.2 (v4 + 1).toNatClampNeg), .int (g.2.2 (v4 + 2).toNatClampNeg), .ref (ad 42)]) (st := []) dL_law_600 calL_edge wm968 wm969 rfl rfl (Nat.le_of_ble_eq_true rfl) ⟨⟨by decide, by decide⟩, by show cc + 3 ≤ 601024; omega, by show cs + 18 ≤ 7293034; omega⟩ (cmL_edge hr hq108) (fun h hr => ?_)
        refine nmI hf (fun x109 hf => ?_)
        refine rw_istore (lv2 := [(5, .int x109), (0, .ref G.2.2.2.1.1), (1, .ref (ad 0)), (2, .ref (ad 43)), (3, .ref (ad 42)), (4, .int v4)]) dL_law_603 (by decide) rfl ?_
        refine rw_aload_n dL_law_605 3 rfl rfl ?_
        refine rw_aload_n dL_law_606 1 rfl rfl ?_
        refine rw_iload dL_law_607 5 rfl ?_
        refine rw_iconst (v := 1) dL_law_609 (by decide) ?_
        refine rw_iadd dL_law_610 ?_
        obtain ⟨hi110, hf⟩ := grd hf
        refine rw_sc hg dL_law_611 (inB_in hi110) ?_
        refine rw_aload_n dL_law_612 1 rfl rfl ?_
        refine rw_iload dL_law_613 5 rfl ?_
        refine rw_iconst (v := 2) dL_law_615 (by decide) ?_
        refine rw_iadd dL_law_616 ?_
        obtain ⟨hi111, hf⟩ := grd hf
        refine rw_sc hg dL_law_617 (inB_in hi111) ?_
        obtain ⟨q112, hq112, hf⟩ := bnd hf
        refine kV_I (ad := ad) (As := [.int (g.2.2 (v4 + 1).toNatClampNeg), .int (g.2.2 (v4 + 2).toNatClampNeg)]) (st := []) dL_law_618 calX12_edge wm1732 wm1733 wm1734 rfl rfl (rc_43 hr) (ci := 12) (by decide) rfl rfl (Nat.le_of_ble_eq_true rfl) ⟨⟨by decide, by decide⟩, by show (cc + 3) + 0 ≤ 601024; omega, by show (cs + 18) + 0 ≤ 7293034; omega⟩ (cmX12_edge hr hq112) (fun h hr => ?_)
        refine nmI hf (fun x113 hf => ?_)
        refine rw_istore (lv2 := [(6, .int x113), (5, .int x109), (0, .ref G.2.2.2.1.1), (1, .ref (ad 0)), (2, .ref (ad 43)), (3, .ref (ad 42)), (4, .int v4)]) dL_law_621 (by decide) rfl ?_
        refine rw_aload_n dL_law_623 4 rfl rfl ?_
        obtain ⟨q114, hq114, hf⟩ := bnd hf
        refine kV_I (ad := ad) (As := []) (st := []) dL_law_624 calX12_thrown wm1601 wm1602 wm1603 rfl rfl (rc_43 hr) (ci := 12) (by decide) rfl rfl (Nat.le_of_ble_eq_true rfl) ⟨⟨by decide, by decide⟩, by show (cc + 3) + 0 ≤ 601024; omega, by show (cs + 18) + 0 ≤ 7293034; omega⟩ (cmX12_thrown hr hq114) (fun h hr => ?_)
        refine rw_iload dL_law_627 1 rfl ?_
        refine rw_icmp_eq (tgt := 634) dL_law_629 (by decide) (fun c115 => ?_) (fun c115 => ?_)
        · rw [if_pos c115] at hf
          refine rw_iload dL_law_634 1 rfl ?_
          refine rw_if_ne (tgt := 651) dL_law_636 (by decide) (fun c116 => ?_) (fun c116 => ?_)
          · rw [if_neg c116] at hf
            refine rw_goto (tgt := 1682) dL_law_651 (by decide) ?_
            refine rw_iinc (v := v4 + 6) (lv2 := [(4, .int (v4 + 6)), (6, .int x113), (5, .int x109), (0, .ref G.2.2.2.1.1), (1, .ref (ad 0)), (2, .ref (ad 43)), (3, .ref (ad 42))]) dL_law_1682 6 rfl rfl (by decide) rfl ?_
            refine nmL hf (fun x117 hf => ?_)
            refine rw_goto (tgt := 23) dL_law_1685 (by decide) ?_
            refine rw_sub [3, 4, 5, 6, 0] rfl ?_
            exact ih (cc + 3) (cs + 18) (bud (c := 3) hbc (by decide)) (bud (c := 18) hbs (by decide)) x117 q114.2 _ hr hf
          · rw [if_pos c116] at hf
            refine rw_aload_n dL_law_639 5 rfl rfl ?_
            refine rw_iconst (v := 0) dL_law_640 (by decide) ?_
            obtain ⟨hi118, hf⟩ := grd hf
            refine sl_42 hr dL_law_641 (inB_in hi118) ?_
            refine rw_iload dL_law_642 0 rfl ?_
            refine rw_i2l dL_law_644 ?_
            refine rw_lcmp dL_law_645 ?_
            refine rw_if_eq (tgt := 651) dL_law_646 (by decide) (fun c119 => ?_) (fun c119 => ?_)
            · rw [if_pos c119] at hf
              refine rw_goto (tgt := 1682) dL_law_651 (by decide) ?_
              refine rw_iinc (v := v4 + 6) (lv2 := [(4, .int (v4 + 6)), (6, .int x113), (5, .int x109), (0, .ref G.2.2.2.1.1), (1, .ref (ad 0)), (2, .ref (ad 43)), (3, .ref (ad 42))]) dL_law_1682 6 rfl rfl (by decide) rfl ?_
              refine nmL hf (fun x120 hf => ?_)
              refine rw_goto (tgt := 23) dL_law_1685 (by decide) ?_
              refine rw_sub [3, 4, 5, 6, 0] rfl ?_
              exact ih (cc + 3) (cs + 18) (bud (c := 3) hbc (by decide)) (bud (c := 18) hbs (by decide)) x120 q114.2 _ hr hf
            · rw [if_neg c119] at hf
              refine rw_iconst (v := 0) dL_law_649 (by decide) ?_
              replace hf := Option.some.inj hf
              subst hf
              exact rw_zreturn dL_law_650 rfl (by decide) (hQ _ hr) (by show (cc + 3) ≤ 601024; omega) (by show (cs + 18) ≤ 7293034; omega)
        · rw [if_neg c115] at hf
          refine rw_iconst (v := 0) dL_law_632 (by decide) ?_
          replace hf := Option.some.inj hf
          subst hf
          exact rw_zreturn dL_law_633 rfl (by decide) (hQ _ hr) (by show (cc + 3) ≤ 601024; omega) (by show (cs + 18) ≤ 7293034; omega)
      rw [if_neg c105] at hf
      by_cases c121 : ((g.2.2 v4.toNatClampNeg) &&& 31) = 10
      · rw [if_pos c121] at hf
        refine rw_top c121 (rw_tableIn (off := 614) (tgt := 654) dL_law_40 (by decide) (by decide) rfl (by decide) ?_)
        refine rw_aload_n dL_law_654 1 rfl rfl ?_
        refine rw_aload_n dL_law_655 0 rfl rfl ?_
        refine rw_iload dL_law_656 4 rfl ?_
        refine rw_iconst (v := 1) dL_law_658 (by decide) ?_
        refine rw_iadd dL_law_659 ?_
        obtain ⟨hi122, hf⟩ := grd hf
        refine rw_sc hg dL_law_660 (inB_in hi122) ?_
        refine rw_aload_n dL_law_661 0 rfl rfl ?_
        refine rw_iload dL_law_662 4 rfl ?_
        refine rw_iconst (v := 2) dL_law_664 (by decide) ?_
        refine rw_iadd dL_law_665 ?_
        obtain ⟨hi123, hf⟩ := grd hf
        refine rw_sc hg dL_law_666 (inB_in hi123) ?_
        refine rw_aload_n dL_law_667 3 rfl rfl ?_
        obtain ⟨q124, hq124, hf⟩ := bnd hf
        refine kW_I (ad := ad) (As := [.ref (ad 0), .int (g.2.2 (v4 + 1).toNatClampNeg), .int (g.2.2 (v4 + 2).toNatClampNeg), .ref (ad 42)]) (st := []) dL_law_668 calL_triangle wm975 wm976 rfl rfl (Nat.le_of_ble_eq_true rfl) ⟨⟨by decide, by decide⟩, by show cc + 3 ≤ 601024; omega, by show cs + 18 ≤ 7293034; omega⟩ (cmL_triangle hr hq124) (fun h hr => ?_)
        refine nmI hf (fun x125 hf => ?_)
        refine rw_istore (lv2 := [(5, .int x125), (0, .ref G.2.2.2.1.1), (1, .ref (ad 0)), (2, .ref (ad 43)), (3, .ref (ad 42)), (4, .int v4)]) dL_law_671 (by decide) rfl ?_
        refine rw_aload_n dL_law_673 3 rfl rfl ?_
        refine rw_aload_n dL_law_674 1 rfl rfl ?_
        refine rw_iload dL_law_675 5 rfl ?_
        refine rw_iconst (v := 1) dL_law_677 (by decide) ?_
        refine rw_iadd dL_law_678 ?_
        obtain ⟨hi126, hf⟩ := grd hf
        refine rw_sc hg dL_law_679 (inB_in hi126) ?_
        refine rw_aload_n dL_law_680 1 rfl rfl ?_
        refine rw_iload dL_law_681 5 rfl ?_
        refine rw_iconst (v := 2) dL_law_683 (by decide) ?_
        refine rw_iadd dL_law_684 ?_
        obtain ⟨hi127, hf⟩ := grd hf
        refine rw_sc hg dL_law_685 (inB_in hi127) ?_
        obtain ⟨q128, hq128, hf⟩ := bnd hf
        refine kV_I (ad := ad) (As := [.int (g.2.2 (v4 + 1).toNatClampNeg), .int (g.2.2 (v4 + 2).toNatClampNeg)]) (st := []) dL_law_686 calX12_triangle wm1736 wm1737 wm1738 rfl rfl (rc_43 hr) (ci := 12) (by decide) rfl rfl (Nat.le_of_ble_eq_true rfl) ⟨⟨by decide, by decide⟩, by show (cc + 3) + 0 ≤ 601024; omega, by show (cs + 18) + 0 ≤ 7293034; omega⟩ (cmX12_triangle hr hq128) (fun h hr => ?_)
        refine nmI hf (fun x129 hf => ?_)
        refine rw_istore (lv2 := [(6, .int x129), (5, .int x125), (0, .ref G.2.2.2.1.1), (1, .ref (ad 0)), (2, .ref (ad 43)), (3, .ref (ad 42)), (4, .int v4)]) dL_law_689 (by decide) rfl ?_
        refine rw_aload_n dL_law_691 4 rfl rfl ?_
        obtain ⟨q130, hq130, hf⟩ := bnd hf
        refine kV_I (ad := ad) (As := []) (st := []) dL_law_692 calX12_thrown wm1601 wm1602 wm1603 rfl rfl (rc_43 hr) (ci := 12) (by decide) rfl rfl (Nat.le_of_ble_eq_true rfl) ⟨⟨by decide, by decide⟩, by show (cc + 3) + 0 ≤ 601024; omega, by show (cs + 18) + 0 ≤ 7293034; omega⟩ (cmX12_thrown hr hq130) (fun h hr => ?_)
        refine rw_iload dL_law_695 1 rfl ?_
        refine rw_icmp_eq (tgt := 702) dL_law_697 (by decide) (fun c131 => ?_) (fun c131 => ?_)
        · rw [if_pos c131] at hf
          refine rw_iload dL_law_702 1 rfl ?_
          refine rw_if_ne (tgt := 719) dL_law_704 (by decide) (fun c132 => ?_) (fun c132 => ?_)
          · rw [if_neg c132] at hf
            refine rw_goto (tgt := 1682) dL_law_719 (by decide) ?_
            refine rw_iinc (v := v4 + 6) (lv2 := [(4, .int (v4 + 6)), (6, .int x129), (5, .int x125), (0, .ref G.2.2.2.1.1), (1, .ref (ad 0)), (2, .ref (ad 43)), (3, .ref (ad 42))]) dL_law_1682 6 rfl rfl (by decide) rfl ?_
            refine nmL hf (fun x133 hf => ?_)
            refine rw_goto (tgt := 23) dL_law_1685 (by decide) ?_
            refine rw_sub [3, 4, 5, 6, 0] rfl ?_
            exact ih (cc + 3) (cs + 18) (bud (c := 3) hbc (by decide)) (bud (c := 18) hbs (by decide)) x133 q130.2 _ hr hf
          · rw [if_pos c132] at hf
            refine rw_aload_n dL_law_707 5 rfl rfl ?_
            refine rw_iconst (v := 0) dL_law_708 (by decide) ?_
            obtain ⟨hi134, hf⟩ := grd hf
            refine sl_42 hr dL_law_709 (inB_in hi134) ?_
            refine rw_iload dL_law_710 0 rfl ?_
            refine rw_i2l dL_law_712 ?_
            refine rw_lcmp dL_law_713 ?_
            refine rw_if_eq (tgt := 719) dL_law_714 (by decide) (fun c135 => ?_) (fun c135 => ?_)
            · rw [if_pos c135] at hf
              refine rw_goto (tgt := 1682) dL_law_719 (by decide) ?_
              refine rw_iinc (v := v4 + 6) (lv2 := [(4, .int (v4 + 6)), (6, .int x129), (5, .int x125), (0, .ref G.2.2.2.1.1), (1, .ref (ad 0)), (2, .ref (ad 43)), (3, .ref (ad 42))]) dL_law_1682 6 rfl rfl (by decide) rfl ?_
              refine nmL hf (fun x136 hf => ?_)
              refine rw_goto (tgt := 23) dL_law_1685 (by decide) ?_
              refine rw_sub [3, 4, 5, 6, 0] rfl ?_
              exact ih (cc + 3) (cs + 18) (bud (c := 3) hbc (by decide)) (bud (c := 18) hbs (by decide)) x136 q130.2 _ hr hf
            · rw [if_neg c135] at hf
              refine rw_iconst (v := 0) dL_law_717 (by decide) ?_
              replace hf := Option.some.inj hf
              subst hf
              exact rw_zreturn dL_law_718 rfl (by decide) (hQ _ hr) (by show (cc + 3) ≤ 601024; omega) (by show (cs + 18) ≤ 7293034; omega)
        · rw [if_neg c131] at hf
          refine rw_iconst (v := 0) dL_law_700 (by decide) ?_
          replace hf := Option.some.inj hf
          subst hf
          exact rw_zreturn dL_law_701 rfl (by decide) (hQ _ hr) (by show (cc + 3) ≤ 601024; omega) (by show (cs + 18) ≤ 7293034; omega)
      rw [if_neg c121] at hf
      by_cases c137 : ((g.2.2 v4.toNatClampNeg) &&& 31) = 11
      · rw [if_pos c137] at hf
        refine rw_top c137 (rw_tableIn (off := 682) (tgt := 722) dL_law_40 (by decide) (by decide) rfl (by decide) ?_)
        refine rw_aload_n dL_law_722 1 rfl rfl ?_
        refine rw_aload_n dL_law_723 0 rfl rfl ?_
        refine rw_iload dL_law_724 4 rfl ?_
        refine rw_iconst (v := 1) dL_law_726 (by decide) ?_
        refine rw_iadd dL_law_727 ?_
        obtain ⟨hi138, hf⟩ := grd hf
        refine rw_sc hg dL_law_728 (inB_in hi138) ?_
        refine rw_aload_n dL_law_729 0 rfl rfl ?_
        refine rw_iload dL_law_730 4 rfl ?_
        refine rw_iconst (v := 2) dL_law_732 (by decide) ?_
        refine rw_iadd dL_law_733 ?_
        obtain ⟨hi139, hf⟩ := grd hf
        refine rw_sc hg dL_law_734 (inB_in hi139) ?_
        refine rw_aload_n dL_law_735 0 rfl rfl ?_
        refine rw_iload dL_law_736 4 rfl ?_
        refine rw_iconst (v := 3) dL_law_738 (by decide) ?_
        refine rw_iadd dL_law_739 ?_
        obtain ⟨hi140, hf⟩ := grd hf
        refine rw_sc hg dL_law_740 (inB_in hi140) ?_
        refine rw_aload_n dL_law_741 3 rfl rfl ?_
        obtain ⟨q141, hq141, hf⟩ := bnd hf
        refine kW_I (ad := ad) (As := [.ref (ad 0), .int (g.2.2 (v4 + 1).toNatClampNeg), .int (g.2.2 (v4 + 2).toNatClampNeg), .int (g.2.2 (v4 + 3).toNatClampNeg), .ref (ad 42)]) (st := []) dL_law_742 calL_match wm989 wm990 rfl rfl (Nat.le_of_ble_eq_true rfl) ⟨⟨by decide, by decide⟩, by show cc + 5 ≤ 601024; omega, by show cs + 30 ≤ 7293034; omega⟩ (cmL_match hr hq141) (fun h hr => ?_)
        refine nmI hf (fun x142 hf => ?_)
        refine rw_istore (lv2 := [(5, .int x142), (0, .ref G.2.2.2.1.1), (1, .ref (ad 0)), (2, .ref (ad 43)), (3, .ref (ad 42)), (4, .int v4)]) dL_law_745 (by decide) rfl ?_
        refine rw_aload_n dL_law_747 3 rfl rfl ?_
        refine rw_aload_n dL_law_748 1 rfl rfl ?_
        refine rw_iload dL_law_749 5 rfl ?_
        refine rw_iconst (v := 1) dL_law_751 (by decide) ?_
        refine rw_iadd dL_law_752 ?_
        obtain ⟨hi143, hf⟩ := grd hf
        refine rw_sc hg dL_law_753 (inB_in hi143) ?_
        refine rw_aload_n dL_law_754 1 rfl rfl ?_
        refine rw_iload dL_law_755 5 rfl ?_
        refine rw_iconst (v := 2) dL_law_757 (by decide) ?_
        refine rw_iadd dL_law_758 ?_
        obtain ⟨hi144, hf⟩ := grd hf
        refine rw_sc hg dL_law_759 (inB_in hi144) ?_
        refine rw_aload_n dL_law_760 1 rfl rfl ?_
        refine rw_iload dL_law_761 5 rfl ?_
        refine rw_iconst (v := 3) dL_law_763 (by decide) ?_
        refine rw_iadd dL_law_764 ?_
        obtain ⟨hi145, hf⟩ := grd hf
        refine rw_sc hg dL_law_765 (inB_in hi145) ?_
        obtain ⟨q146, hq146, hf⟩ := bnd hf
        refine kV_I (ad := ad) (As := [.int (g.2.2 (v4 + 1).toNatClampNeg), .int (g.2.2 (v4 + 2).toNatClampNeg), .int (g.2.2 (v4 + 3).toNatClampNeg)]) (st := []) dL_law_766 calX12_match wm1740 wm1741 wm1742 rfl rfl (rc_43 hr) (ci := 12) (by decide) rfl rfl (Nat.le_of_ble_eq_true rfl) ⟨⟨by decide, by decide⟩, by show (cc + 5) + 0 ≤ 601024; omega, by show (cs + 30) + 0 ≤ 7293034; omega⟩ (cmX12_match hr hq146) (fun h hr => ?_)
        refine nmI hf (fun x147 hf => ?_)
        refine rw_istore (lv2 := [(6, .int x147), (5, .int x142), (0, .ref G.2.2.2.1.1), (1, .ref (ad 0)), (2, .ref (ad 43)), (3, .ref (ad 42)), (4, .int v4)]) dL_law_769 (by decide) rfl ?_
        refine rw_aload_n dL_law_771 4 rfl rfl ?_
        obtain ⟨q148, hq148, hf⟩ := bnd hf
        refine kV_I (ad := ad) (As := []) (st := []) dL_law_772 calX12_thrown wm1601 wm1602 wm1603 rfl rfl (rc_43 hr) (ci := 12) (by decide) rfl rfl (Nat.le_of_ble_eq_true rfl) ⟨⟨by decide, by decide⟩, by show (cc + 5) + 0 ≤ 601024; omega, by show (cs + 30) + 0 ≤ 7293034; omega⟩ (cmX12_thrown hr hq148) (fun h hr => ?_)
        refine rw_iload dL_law_775 1 rfl ?_
        refine rw_icmp_eq (tgt := 782) dL_law_777 (by decide) (fun c149 => ?_) (fun c149 => ?_)
        · rw [if_pos c149] at hf
          refine rw_iload dL_law_782 1 rfl ?_
          refine rw_if_ne (tgt := 799) dL_law_784 (by decide) (fun c150 => ?_) (fun c150 => ?_)
          · rw [if_neg c150] at hf
            refine rw_goto (tgt := 1682) dL_law_799 (by decide) ?_
            refine rw_iinc (v := v4 + 6) (lv2 := [(4, .int (v4 + 6)), (6, .int x147), (5, .int x142), (0, .ref G.2.2.2.1.1), (1, .ref (ad 0)), (2, .ref (ad 43)), (3, .ref (ad 42))]) dL_law_1682 6 rfl rfl (by decide) rfl ?_
            refine nmL hf (fun x151 hf => ?_)
            refine rw_goto (tgt := 23) dL_law_1685 (by decide) ?_
            refine rw_sub [3, 4, 5, 6, 0] rfl ?_
            exact ih (cc + 5) (cs + 30) (bud (c := 5) hbc (by decide)) (bud (c := 30) hbs (by decide)) x151 q148.2 _ hr hf
          · rw [if_pos c150] at hf
            refine rw_aload_n dL_law_787 5 rfl rfl ?_
            refine rw_iconst (v := 0) dL_law_788 (by decide) ?_
            obtain ⟨hi152, hf⟩ := grd hf
            refine sl_42 hr dL_law_789 (inB_in hi152) ?_
            refine rw_iload dL_law_790 0 rfl ?_
            refine rw_i2l dL_law_792 ?_
            refine rw_lcmp dL_law_793 ?_
            refine rw_if_eq (tgt := 799) dL_law_794 (by decide) (fun c153 => ?_) (fun c153 => ?_)
            · rw [if_pos c153] at hf
              refine rw_goto (tgt := 1682) dL_law_799 (by decide) ?_
              refine rw_iinc (v := v4 + 6) (lv2 := [(4, .int (v4 + 6)), (6, .int x147), (5, .int x142), (0, .ref G.2.2.2.1.1), (1, .ref (ad 0)), (2, .ref (ad 43)), (3, .ref (ad 42))]) dL_law_1682 6 rfl rfl (by decide) rfl ?_
              refine nmL hf (fun x154 hf => ?_)
              refine rw_goto (tgt := 23) dL_law_1685 (by decide) ?_
              refine rw_sub [3, 4, 5, 6, 0] rfl ?_
              exact ih (cc + 5) (cs + 30) (bud (c := 5) hbc (by decide)) (bud (c := 30) hbs (by decide)) x154 q148.2 _ hr hf
            · rw [if_neg c153] at hf
              refine rw_iconst (v := 0) dL_law_797 (by decide) ?_
              replace hf := Option.some.inj hf
              subst hf
              exact rw_zreturn dL_law_798 rfl (by decide) (hQ _ hr) (by show (cc + 5) ≤ 601024; omega) (by show (cs + 30) ≤ 7293034; omega)
        · rw [if_neg c149] at hf
          refine rw_iconst (v := 0) dL_law_780 (by decide) ?_
          replace hf := Option.some.inj hf
          subst hf
          exact rw_zreturn dL_law_781 rfl (by decide) (hQ _ hr) (by show (cc + 5) ≤ 601024; omega) (by show (cs + 30) ≤ 7293034; omega)
      rw [if_neg c137] at hf
      by_cases c155 : ((g.2.2 v4.toNatClampNeg) &&& 31) = 12
      · rw [if_pos c155] at hf
        refine rw_top c155 (rw_tableIn (off := 762) (tgt := 802) dL_law_40 (by decide) (by decide) rfl (by decide) ?_)
        refine rw_aload_n dL_law_802 1 rfl rfl ?_
        refine rw_aload_n dL_law_803 0 rfl rfl ?_
        refine rw_iload dL_law_804 4 rfl ?_
        refine rw_iconst (v := 1) dL_law_806 (by decide) ?_
        refine rw_iadd dL_law_807 ?_
        obtain ⟨hi156, hf⟩ := grd hf
        refine rw_sc hg dL_law_808 (inB_in hi156) ?_
        refine rw_aload_n dL_law_809 0 rfl rfl ?_
        refine rw_iload dL_law_810 4 rfl ?_
        refine rw_iconst (v := 2) dL_law_812 (by decide) ?_
        refine rw_iadd dL_law_813 ?_
        obtain ⟨hi157, hf⟩ := grd hf
        refine rw_sc hg dL_law_814 (inB_in hi157) ?_
        refine rw_aload_n dL_law_815 3 rfl rfl ?_
        obtain ⟨q158, hq158, hf⟩ := bnd hf
        refine kW_I (ad := ad) (As := [.ref (ad 0), .int (g.2.2 (v4 + 1).toNatClampNeg), .int (g.2.2 (v4 + 2).toNatClampNeg), .ref (ad 42)]) (st := []) dL_law_816 calL_sum wm1002 wm1003 rfl rfl (Nat.le_of_ble_eq_true rfl) ⟨⟨by decide, by decide⟩, by show cc + 4 ≤ 601024; omega, by show cs + 24 ≤ 7293034; omega⟩ (cmL_sum hr hq158) (fun h hr => ?_)
        refine nmI hf (fun x159 hf => ?_)
        refine rw_istore (lv2 := [(5, .int x159), (0, .ref G.2.2.2.1.1), (1, .ref (ad 0)), (2, .ref (ad 43)), (3, .ref (ad 42)), (4, .int v4)]) dL_law_819 (by decide) rfl ?_
        refine rw_aload_n dL_law_821 3 rfl rfl ?_
        refine rw_aload_n dL_law_822 1 rfl rfl ?_
        refine rw_iload dL_law_823 5 rfl ?_
        refine rw_iconst (v := 1) dL_law_825 (by decide) ?_
        refine rw_iadd dL_law_826 ?_
        obtain ⟨hi160, hf⟩ := grd hf
        refine rw_sc hg dL_law_827 (inB_in hi160) ?_
        refine rw_aload_n dL_law_828 1 rfl rfl ?_
        refine rw_iload dL_law_829 5 rfl ?_
        refine rw_iconst (v := 2) dL_law_831 (by decide) ?_
        refine rw_iadd dL_law_832 ?_
        obtain ⟨hi161, hf⟩ := grd hf
        refine rw_sc hg dL_law_833 (inB_in hi161) ?_
        obtain ⟨q162, hq162, hf⟩ := bnd hf
        refine kV_I (ad := ad) (As := [.int (g.2.2 (v4 + 1).toNatClampNeg), .int (g.2.2 (v4 + 2).toNatClampNeg)]) (st := []) dL_law_834 calX12_sum wm1748 wm1749 wm1750 rfl rfl (rc_43 hr) (ci := 12) (by decide) rfl rfl (Nat.le_of_ble_eq_true rfl) ⟨⟨by decide, by decide⟩, by show (cc + 4) + 0 ≤ 601024; omega, by show (cs + 24) + 0 ≤ 7293034; omega⟩ (cmX12_sum hr hq162) (fun h hr => ?_)
        refine nmI hf (fun x163 hf => ?_)
        refine rw_istore (lv2 := [(6, .int x163), (5, .int x159), (0, .ref G.2.2.2.1.1), (1, .ref (ad 0)), (2, .ref (ad 43)), (3, .ref (ad 42)), (4, .int v4)]) dL_law_837 (by decide) rfl ?_
        refine rw_aload_n dL_law_839 4 rfl rfl ?_
        obtain ⟨q164, hq164, hf⟩ := bnd hf
        refine kV_I (ad := ad) (As := []) (st := []) dL_law_840 calX12_thrown wm1601 wm1602 wm1603 rfl rfl (rc_43 hr) (ci := 12) (by decide) rfl rfl (Nat.le_of_ble_eq_true rfl) ⟨⟨by decide, by decide⟩, by show (cc + 4) + 0 ≤ 601024; omega, by show (cs + 24) + 0 ≤ 7293034; omega⟩ (cmX12_thrown hr hq164) (fun h hr => ?_)
        refine rw_iload dL_law_843 1 rfl ?_
        refine rw_icmp_eq (tgt := 850) dL_law_845 (by decide) (fun c165 => ?_) (fun c165 => ?_)
        · rw [if_pos c165] at hf
          refine rw_iload dL_law_850 1 rfl ?_
          refine rw_if_ne (tgt := 867) dL_law_852 (by decide) (fun c166 => ?_) (fun c166 => ?_)
          · rw [if_neg c166] at hf
            refine rw_goto (tgt := 1682) dL_law_867 (by decide) ?_
            refine rw_iinc (v := v4 + 6) (lv2 := [(4, .int (v4 + 6)), (6, .int x163), (5, .int x159), (0, .ref G.2.2.2.1.1), (1, .ref (ad 0)), (2, .ref (ad 43)), (3, .ref (ad 42))]) dL_law_1682 6 rfl rfl (by decide) rfl ?_
            refine nmL hf (fun x167 hf => ?_)
            refine rw_goto (tgt := 23) dL_law_1685 (by decide) ?_
            refine rw_sub [3, 4, 5, 6, 0] rfl ?_
            exact ih (cc + 4) (cs + 24) (bud (c := 4) hbc (by decide)) (bud (c := 24) hbs (by decide)) x167 q164.2 _ hr hf
          · rw [if_pos c166] at hf
            refine rw_aload_n dL_law_855 5 rfl rfl ?_
            refine rw_iconst (v := 0) dL_law_856 (by decide) ?_
            obtain ⟨hi168, hf⟩ := grd hf
            refine sl_42 hr dL_law_857 (inB_in hi168) ?_
            refine rw_iload dL_law_858 0 rfl ?_
            refine rw_i2l dL_law_860 ?_
            refine rw_lcmp dL_law_861 ?_
            refine rw_if_eq (tgt := 867) dL_law_862 (by decide) (fun c169 => ?_) (fun c169 => ?_)
            · rw [if_pos c169] at hf
              refine rw_goto (tgt := 1682) dL_law_867 (by decide) ?_
              refine rw_iinc (v := v4 + 6) (lv2 := [(4, .int (v4 + 6)), (6, .int x163), (5, .int x159), (0, .ref G.2.2.2.1.1), (1, .ref (ad 0)), (2, .ref (ad 43)), (3, .ref (ad 42))]) dL_law_1682 6 rfl rfl (by decide) rfl ?_
              refine nmL hf (fun x170 hf => ?_)
              refine rw_goto (tgt := 23) dL_law_1685 (by decide) ?_
              refine rw_sub [3, 4, 5, 6, 0] rfl ?_
              exact ih (cc + 4) (cs + 24) (bud (c := 4) hbc (by decide)) (bud (c := 24) hbs (by decide)) x170 q164.2 _ hr hf
            · rw [if_neg c169] at hf
              refine rw_iconst (v := 0) dL_law_865 (by decide) ?_
              replace hf := Option.some.inj hf
              subst hf
              exact rw_zreturn dL_law_866 rfl (by decide) (hQ _ hr) (by show (cc + 4) ≤ 601024; omega) (by show (cs + 24) ≤ 7293034; omega)
        · rw [if_neg c165] at hf
          refine rw_iconst (v := 0) dL_law_848 (by decide) ?_
          replace hf := Option.some.inj hf
          subst hf
          exact rw_zreturn dL_law_849 rfl (by decide) (hQ _ hr) (by show (cc + 4) ≤ 601024; omega) (by show (cs + 24) ≤ 7293034; omega)
      rw [if_neg c155] at hf
      by_cases c171 : ((g.2.2 v4.toNatClampNeg) &&& 31) = 13
      · rw [if_pos c171] at hf
        refine rw_top c171 (rw_tableIn (off := 830) (tgt := 870) dL_law_40 (by decide) (by decide) rfl (by decide) ?_)
        refine rw_aload_n dL_law_870 1 rfl rfl ?_
        refine rw_aload_n dL_law_871 0 rfl rfl ?_
        refine rw_iload dL_law_872 4 rfl ?_
        refine rw_iconst (v := 1) dL_law_874 (by decide) ?_
        refine rw_iadd dL_law_875 ?_
        obtain ⟨hi172, hf⟩ := grd hf
        refine rw_sc hg dL_law_876 (inB_in hi172) ?_
        refine rw_aload_n dL_law_877 0 rfl rfl ?_
        refine rw_iload dL_law_878 4 rfl ?_
        refine rw_iconst (v := 2) dL_law_880 (by decide) ?_
        refine rw_iadd dL_law_881 ?_
        obtain ⟨hi173, hf⟩ := grd hf
        refine rw_sc hg dL_law_882 (inB_in hi173) ?_
        refine rw_aload_n dL_law_883 0 rfl rfl ?_
        refine rw_iload dL_law_884 4 rfl ?_
        refine rw_iconst (v := 3) dL_law_886 (by decide) ?_
        refine rw_iadd dL_law_887 ?_
        obtain ⟨hi174, hf⟩ := grd hf
        refine rw_sc hg dL_law_888 (inB_in hi174) ?_
        refine rw_aload_n dL_law_889 0 rfl rfl ?_
        refine rw_iload dL_law_890 4 rfl ?_
        refine rw_iconst (v := 4) dL_law_892 (by decide) ?_
        refine rw_iadd dL_law_893 ?_
        obtain ⟨hi175, hf⟩ := grd hf
        refine rw_sc hg dL_law_894 (inB_in hi175) ?_
        refine rw_aload_n dL_law_895 3 rfl rfl ?_
        obtain ⟨q176, hq176, hf⟩ := bnd hf
        refine kW_I (ad := ad) (As := [.ref (ad 0), .int (g.2.2 (v4 + 1).toNatClampNeg), .int (g.2.2 (v4 + 2).toNatClampNeg), .int (g.2.2 (v4 + 3).toNatClampNeg), .int (g.2.2 (v4 + 4).toNatClampNeg), .ref (ad 42)]) (st := []) dL_law_896 calL_section wm1009 wm1010 rfl rfl (Nat.le_of_ble_eq_true rfl) ⟨⟨by decide, by decide⟩, by show cc + 6 ≤ 601024; omega, by show cs + 36 ≤ 7293034; omega⟩ (cmL_section hr hq176) (fun h hr => ?_)
        refine nmI hf (fun x177 hf => ?_)
        refine rw_istore (lv2 := [(5, .int x177), (0, .ref G.2.2.2.1.1), (1, .ref (ad 0)), (2, .ref (ad 43)), (3, .ref (ad 42)), (4, .int v4)]) dL_law_899 (by decide) rfl ?_
        refine rw_aload_n dL_law_901 3 rfl rfl ?_
        refine rw_aload_n dL_law_902 1 rfl rfl ?_
        refine rw_iload dL_law_903 5 rfl ?_
        refine rw_iconst (v := 1) dL_law_905 (by decide) ?_
        refine rw_iadd dL_law_906 ?_
        obtain ⟨hi178, hf⟩ := grd hf
        refine rw_sc hg dL_law_907 (inB_in hi178) ?_
        refine rw_aload_n dL_law_908 1 rfl rfl ?_
        refine rw_iload dL_law_909 5 rfl ?_
        refine rw_iconst (v := 2) dL_law_911 (by decide) ?_
        refine rw_iadd dL_law_912 ?_
        obtain ⟨hi179, hf⟩ := grd hf
        refine rw_sc hg dL_law_913 (inB_in hi179) ?_
        refine rw_aload_n dL_law_914 1 rfl rfl ?_
        refine rw_iload dL_law_915 5 rfl ?_
        refine rw_iconst (v := 3) dL_law_917 (by decide) ?_
        refine rw_iadd dL_law_918 ?_
        obtain ⟨hi180, hf⟩ := grd hf
        refine rw_sc hg dL_law_919 (inB_in hi180) ?_
        refine rw_aload_n dL_law_920 1 rfl rfl ?_
        refine rw_iload dL_law_921 5 rfl ?_
        refine rw_iconst (v := 4) dL_law_923 (by decide) ?_
        refine rw_iadd dL_law_924 ?_
        obtain ⟨hi181, hf⟩ := grd hf
        refine rw_sc hg dL_law_925 (inB_in hi181) ?_
        obtain ⟨q182, hq182, hf⟩ := bnd hf
        refine kV_I (ad := ad) (As := [.int (g.2.2 (v4 + 1).toNatClampNeg), .int (g.2.2 (v4 + 2).toNatClampNeg), .int (g.2.2 (v4 + 3).toNatClampNeg), .int (g.2.2 (v4 + 4).toNatClampNeg)]) (st := []) dL_law_926 calX12_section wm1752 wm1753 wm1754 rfl rfl (rc_43 hr) (ci := 12) (by decide) rfl rfl (Nat.le_of_ble_eq_true rfl) ⟨⟨by decide, by decide⟩, by show (cc + 6) + 0 ≤ 601024; omega, by show (cs + 36) + 0 ≤ 7293034; omega⟩ (cmX12_section hr hq182) (fun h hr => ?_)
        refine nmI hf (fun x183 hf => ?_)
        refine rw_istore (lv2 := [(6, .int x183), (5, .int x177), (0, .ref G.2.2.2.1.1), (1, .ref (ad 0)), (2, .ref (ad 43)), (3, .ref (ad 42)), (4, .int v4)]) dL_law_929 (by decide) rfl ?_
        refine rw_aload_n dL_law_931 4 rfl rfl ?_
        obtain ⟨q184, hq184, hf⟩ := bnd hf
        refine kV_I (ad := ad) (As := []) (st := []) dL_law_932 calX12_thrown wm1601 wm1602 wm1603 rfl rfl (rc_43 hr) (ci := 12) (by decide) rfl rfl (Nat.le_of_ble_eq_true rfl) ⟨⟨by decide, by decide⟩, by show (cc + 6) + 0 ≤ 601024; omega, by show (cs + 36) + 0 ≤ 7293034; omega⟩ (cmX12_thrown hr hq184) (fun h hr => ?_)
        refine rw_iload dL_law_935 1 rfl ?_
        refine rw_icmp_eq (tgt := 942) dL_law_937 (by decide) (fun c185 => ?_) (fun c185 => ?_)
        · rw [if_pos c185] at hf
          refine rw_iload dL_law_942 1 rfl ?_
          refine rw_if_ne (tgt := 959) dL_law_944 (by decide) (fun c186 => ?_) (fun c186 => ?_)
          · rw [if_neg c186] at hf
            refine rw_goto (tgt := 1682) dL_law_959 (by decide) ?_
            refine rw_iinc (v := v4 + 6) (lv2 := [(4, .int (v4 + 6)), (6, .int x183), (5, .int x177), (0, .ref G.2.2.2.1.1), (1, .ref (ad 0)), (2, .ref (ad 43)), (3, .ref (ad 42))]) dL_law_1682 6 rfl rfl (by decide) rfl ?_
            refine nmL hf (fun x187 hf => ?_)
            refine rw_goto (tgt := 23) dL_law_1685 (by decide) ?_
            refine rw_sub [3, 4, 5, 6, 0] rfl ?_
            exact ih (cc + 6) (cs + 36) (bud (c := 6) hbc (by decide)) (bud (c := 36) hbs (by decide)) x187 q184.2 _ hr hf
          · rw [if_pos c186] at hf
            refine rw_aload_n dL_law_947 5 rfl rfl ?_
            refine rw_iconst (v := 0) dL_law_948 (by decide) ?_
            obtain ⟨hi188, hf⟩ := grd hf
            refine sl_42 hr dL_law_949 (inB_in hi188) ?_
            refine rw_iload dL_law_950 0 rfl ?_
            refine rw_i2l dL_law_952 ?_
            refine rw_lcmp dL_law_953 ?_
            refine rw_if_eq (tgt := 959) dL_law_954 (by decide) (fun c189 => ?_) (fun c189 => ?_)
            · rw [if_pos c189] at hf
              refine rw_goto (tgt := 1682) dL_law_959 (by decide) ?_
              refine rw_iinc (v := v4 + 6) (lv2 := [(4, .int (v4 + 6)), (6, .int x183), (5, .int x177), (0, .ref G.2.2.2.1.1), (1, .ref (ad 0)), (2, .ref (ad 43)), (3, .ref (ad 42))]) dL_law_1682 6 rfl rfl (by decide) rfl ?_
              refine nmL hf (fun x190 hf => ?_)
              refine rw_goto (tgt := 23) dL_law_1685 (by decide) ?_
              refine rw_sub [3, 4, 5, 6, 0] rfl ?_
              exact ih (cc + 6) (cs + 36) (bud (c := 6) hbc (by decide)) (bud (c := 36) hbs (by decide)) x190 q184.2 _ hr hf
            · rw [if_neg c189] at hf
              refine rw_iconst (v := 0) dL_law_957 (by decide) ?_
              replace hf := Option.some.inj hf
              subst hf
              exact rw_zreturn dL_law_958 rfl (by decide) (hQ _ hr) (by show (cc + 6) ≤ 601024; omega) (by show (cs + 36) ≤ 7293034; omega)
        · rw [if_neg c185] at hf
          refine rw_iconst (v := 0) dL_law_940 (by decide) ?_
          replace hf := Option.some.inj hf
          subst hf
          exact rw_zreturn dL_law_941 rfl (by decide) (hQ _ hr) (by show (cc + 6) ≤ 601024; omega) (by show (cs + 36) ≤ 7293034; omega)
      rw [if_neg c171] at hf
      by_cases c191 : ((g.2.2 v4.toNatClampNeg) &&& 31) = 14
      · rw [if_pos c191] at hf
        refine rw_top c191 (rw_tableIn (off := 922) (tgt := 962) dL_law_40 (by decide) (by decide) rfl (by decide) ?_)
        refine rw_aload_n dL_law_962 1 rfl rfl ?_
        refine rw_aload_n dL_law_963 3 rfl rfl ?_
        obtain ⟨q192, hq192, hf⟩ := bnd hf
        refine kW_I (ad := ad) (As := [.ref (ad 0), .ref (ad 42)]) (st := []) dL_law_964 calL_crosses wm1025 wm1026 rfl rfl (Nat.le_of_ble_eq_true rfl) ⟨⟨by decide, by decide⟩, by show cc + 1 ≤ 601024; omega, by show cs + 6 ≤ 7293034; omega⟩ (cmL_crosses hr hq192) (fun h hr => ?_)
        refine nmI hf (fun x193 hf => ?_)
        refine rw_istore (lv2 := [(5, .int x193), (0, .ref G.2.2.2.1.1), (1, .ref (ad 0)), (2, .ref (ad 43)), (3, .ref (ad 42)), (4, .int v4)]) dL_law_967 (by decide) rfl ?_
        refine rw_aload_n dL_law_969 3 rfl rfl ?_
        obtain ⟨q194, hq194, hf⟩ := bnd hf
        refine kV_I (ad := ad) (As := []) (st := []) dL_law_970 calX12_crosses wm1756 wm1757 wm1758 rfl rfl (rc_43 hr) (ci := 12) (by decide) rfl rfl (Nat.le_of_ble_eq_true rfl) ⟨⟨by decide, by decide⟩, by show (cc + 1) + 0 ≤ 601024; omega, by show (cs + 6) + 0 ≤ 7293034; omega⟩ (cmX12_crosses hr hq194) (fun h hr => ?_)
        refine nmI hf (fun x195 hf => ?_)
        refine rw_istore (lv2 := [(6, .int x195), (5, .int x193), (0, .ref G.2.2.2.1.1), (1, .ref (ad 0)), (2, .ref (ad 43)), (3, .ref (ad 42)), (4, .int v4)]) dL_law_973 (by decide) rfl ?_
        refine rw_aload_n dL_law_975 4 rfl rfl ?_
        obtain ⟨q196, hq196, hf⟩ := bnd hf
        refine kV_I (ad := ad) (As := []) (st := []) dL_law_976 calX12_thrown wm1601 wm1602 wm1603 rfl rfl (rc_43 hr) (ci := 12) (by decide) rfl rfl (Nat.le_of_ble_eq_true rfl) ⟨⟨by decide, by decide⟩, by show (cc + 1) + 0 ≤ 601024; omega, by show (cs + 6) + 0 ≤ 7293034; omega⟩ (cmX12_thrown hr hq196) (fun h hr => ?_)
        refine rw_iload dL_law_979 1 rfl ?_
        refine rw_icmp_eq (tgt := 986) dL_law_981 (by decide) (fun c197 => ?_) (fun c197 => ?_)
        · rw [if_pos c197] at hf
          refine rw_iload dL_law_986 1 rfl ?_
          refine rw_if_ne (tgt := 1010) dL_law_988 (by decide) (fun c198 => ?_) (fun c198 => ?_)
          · rw [if_neg c198] at hf
            refine rw_goto (tgt := 1682) dL_law_1010 (by decide) ?_
            refine rw_iinc (v := v4 + 6) (lv2 := [(4, .int (v4 + 6)), (6, .int x195), (5, .int x193), (0, .ref G.2.2.2.1.1), (1, .ref (ad 0)), (2, .ref (ad 43)), (3, .ref (ad 42))]) dL_law_1682 6 rfl rfl (by decide) rfl ?_
            refine nmL hf (fun x199 hf => ?_)
            refine rw_goto (tgt := 23) dL_law_1685 (by decide) ?_
            refine rw_sub [3, 4, 5, 6, 0] rfl ?_
            exact ih (cc + 1) (cs + 6) (bud (c := 1) hbc (by decide)) (bud (c := 6) hbs (by decide)) x199 q196.2 _ hr hf
          · rw [if_pos c198] at hf
            refine rw_aload_n dL_law_991 5 rfl rfl ?_
            refine rw_iconst (v := 0) dL_law_992 (by decide) ?_
            obtain ⟨hi200, hf⟩ := grd hf
            refine sl_42 hr dL_law_993 (inB_in hi200) ?_
            refine rw_iload dL_law_994 0 rfl ?_
            refine rw_if_eq (tgt := 1003) dL_law_996 (by decide) (fun c201 => ?_) (fun c201 => ?_)
            · rw [if_pos c201] at hf
              refine rw_lconst (v := 0) dL_law_1003 (by decide) ?_
              refine rw_lcmp dL_law_1004 ?_
              refine rw_if_eq (tgt := 1010) dL_law_1005 (by decide) (fun c202 => ?_) (fun c202 => ?_)
              · rw [if_pos c202] at hf
                refine rw_goto (tgt := 1682) dL_law_1010 (by decide) ?_
                refine rw_iinc (v := v4 + 6) (lv2 := [(4, .int (v4 + 6)), (6, .int x195), (5, .int x193), (0, .ref G.2.2.2.1.1), (1, .ref (ad 0)), (2, .ref (ad 43)), (3, .ref (ad 42))]) dL_law_1682 6 rfl rfl (by decide) rfl ?_
                refine nmL hf (fun x203 hf => ?_)
                refine rw_goto (tgt := 23) dL_law_1685 (by decide) ?_
                refine rw_sub [3, 4, 5, 6, 0] rfl ?_
                exact ih (cc + 1) (cs + 6) (bud (c := 1) hbc (by decide)) (bud (c := 6) hbs (by decide)) x203 q196.2 _ hr hf
              · rw [if_neg c202] at hf
                refine rw_iconst (v := 0) dL_law_1008 (by decide) ?_
                replace hf := Option.some.inj hf
                subst hf
                exact rw_zreturn dL_law_1009 rfl (by decide) (hQ _ hr) (by show (cc + 1) ≤ 601024; omega) (by show (cs + 6) ≤ 7293034; omega)
            · rw [if_neg c201] at hf
              refine rw_lconst (v := 1) dL_law_999 (by decide) ?_
              refine rw_goto (tgt := 1004) dL_law_1000 (by decide) ?_
              refine rw_lcmp dL_law_1004 ?_
              refine rw_if_eq (tgt := 1010) dL_law_1005 (by decide) (fun c204 => ?_) (fun c204 => ?_)
              · rw [if_pos c204] at hf
                refine rw_goto (tgt := 1682) dL_law_1010 (by decide) ?_
                refine rw_iinc (v := v4 + 6) (lv2 := [(4, .int (v4 + 6)), (6, .int x195), (5, .int x193), (0, .ref G.2.2.2.1.1), (1, .ref (ad 0)), (2, .ref (ad 43)), (3, .ref (ad 42))]) dL_law_1682 6 rfl rfl (by decide) rfl ?_
                refine nmL hf (fun x205 hf => ?_)
                refine rw_goto (tgt := 23) dL_law_1685 (by decide) ?_
                refine rw_sub [3, 4, 5, 6, 0] rfl ?_
                exact ih (cc + 1) (cs + 6) (bud (c := 1) hbc (by decide)) (bud (c := 6) hbs (by decide)) x205 q196.2 _ hr hf
              · rw [if_neg c204] at hf
                refine rw_iconst (v := 0) dL_law_1008 (by decide) ?_
                replace hf := Option.some.inj hf
                subst hf
                exact rw_zreturn dL_law_1009 rfl (by decide) (hQ _ hr) (by show (cc + 1) ≤ 601024; omega) (by show (cs + 6) ≤ 7293034; omega)
        · rw [if_neg c197] at hf
          refine rw_iconst (v := 0) dL_law_984 (by decide) ?_
          replace hf := Option.some.inj hf
          subst hf
          exact rw_zreturn dL_law_985 rfl (by decide) (hQ _ hr) (by show (cc + 1) ≤ 601024; omega) (by show (cs + 6) ≤ 7293034; omega)
      rw [if_neg c191] at hf
      by_cases c206 : ((g.2.2 v4.toNatClampNeg) &&& 31) = 15
      · rw [if_pos c206] at hf
        refine rw_top c206 (rw_tableIn (off := 973) (tgt := 1013) dL_law_40 (by decide) (by decide) rfl (by decide) ?_)
        refine rw_aload_n dL_law_1013 1 rfl rfl ?_
        refine rw_aload_n dL_law_1014 0 rfl rfl ?_
        refine rw_iload dL_law_1015 4 rfl ?_
        refine rw_iconst (v := 1) dL_law_1017 (by decide) ?_
        refine rw_iadd dL_law_1018 ?_
        obtain ⟨hi207, hf⟩ := grd hf
        refine rw_sc hg dL_law_1019 (inB_in hi207) ?_
        refine rw_aload_n dL_law_1020 0 rfl rfl ?_
        refine rw_iload dL_law_1021 4 rfl ?_
        refine rw_iconst (v := 2) dL_law_1023 (by decide) ?_
        refine rw_iadd dL_law_1024 ?_
        obtain ⟨hi208, hf⟩ := grd hf
        refine rw_sc hg dL_law_1025 (inB_in hi208) ?_
        refine rw_aload_n dL_law_1026 3 rfl rfl ?_
        obtain ⟨q209, hq209, hf⟩ := bnd hf
        refine kW_I (ad := ad) (As := [.ref (ad 0), .int (g.2.2 (v4 + 1).toNatClampNeg), .int (g.2.2 (v4 + 2).toNatClampNeg), .ref (ad 42)]) (st := []) dL_law_1027 calL_bed wm1041 wm1042 rfl rfl (Nat.le_of_ble_eq_true rfl) ⟨⟨by decide, by decide⟩, by show cc + 3 ≤ 601024; omega, by show cs + 18 ≤ 7293034; omega⟩ (cmL_bed hr hq209) (fun h hr => ?_)
        refine nmI hf (fun x210 hf => ?_)
        refine rw_istore (lv2 := [(5, .int x210), (0, .ref G.2.2.2.1.1), (1, .ref (ad 0)), (2, .ref (ad 43)), (3, .ref (ad 42)), (4, .int v4)]) dL_law_1030 (by decide) rfl ?_
        refine rw_aload_n dL_law_1032 3 rfl rfl ?_
        refine rw_aload_n dL_law_1033 1 rfl rfl ?_
        refine rw_iload dL_law_1034 5 rfl ?_
        refine rw_iconst (v := 1) dL_law_1036 (by decide) ?_
        refine rw_iadd dL_law_1037 ?_
        obtain ⟨hi211, hf⟩ := grd hf
        refine rw_sc hg dL_law_1038 (inB_in hi211) ?_
        refine rw_aload_n dL_law_1039 1 rfl rfl ?_
        refine rw_iload dL_law_1040 5 rfl ?_
        refine rw_iconst (v := 2) dL_law_1042 (by decide) ?_
        refine rw_iadd dL_law_1043 ?_
        obtain ⟨hi212, hf⟩ := grd hf
        refine rw_sc hg dL_law_1044 (inB_in hi212) ?_
        obtain ⟨q213, hq213, hf⟩ := bnd hf
        refine kV_I (ad := ad) (As := [.int (g.2.2 (v4 + 1).toNatClampNeg), .int (g.2.2 (v4 + 2).toNatClampNeg)]) (st := []) dL_law_1045 calX12_bed wm1760 wm1761 wm1762 rfl rfl (rc_43 hr) (ci := 12) (by decide) rfl rfl (Nat.le_of_ble_eq_true rfl) ⟨⟨by decide, by decide⟩, by show (cc + 3) + 0 ≤ 601024; omega, by show (cs + 18) + 0 ≤ 7293034; omega⟩ (cmX12_bed hr hq213) (fun h hr => ?_)
        refine nmI hf (fun x214 hf => ?_)
        refine rw_istore (lv2 := [(6, .int x214), (5, .int x210), (0, .ref G.2.2.2.1.1), (1, .ref (ad 0)), (2, .ref (ad 43)), (3, .ref (ad 42)), (4, .int v4)]) dL_law_1048 (by decide) rfl ?_
        refine rw_aload_n dL_law_1050 4 rfl rfl ?_
        obtain ⟨q215, hq215, hf⟩ := bnd hf
        refine kV_I (ad := ad) (As := []) (st := []) dL_law_1051 calX12_thrown wm1601 wm1602 wm1603 rfl rfl (rc_43 hr) (ci := 12) (by decide) rfl rfl (Nat.le_of_ble_eq_true rfl) ⟨⟨by decide, by decide⟩, by show (cc + 3) + 0 ≤ 601024; omega, by show (cs + 18) + 0 ≤ 7293034; omega⟩ (cmX12_thrown hr hq215) (fun h hr => ?_)
        refine rw_iload dL_law_1054 1 rfl ?_
        refine rw_icmp_eq (tgt := 1061) dL_law_1056 (by decide) (fun c216 => ?_) (fun c216 => ?_)
        · rw [if_pos c216] at hf
          refine rw_iload dL_law_1061 1 rfl ?_
          refine rw_if_ne (tgt := 1078) dL_law_1063 (by decide) (fun c217 => ?_) (fun c217 => ?_)
          · rw [if_neg c217] at hf
            refine rw_goto (tgt := 1682) dL_law_1078 (by decide) ?_
            refine rw_iinc (v := v4 + 6) (lv2 := [(4, .int (v4 + 6)), (6, .int x214), (5, .int x210), (0, .ref G.2.2.2.1.1), (1, .ref (ad 0)), (2, .ref (ad 43)), (3, .ref (ad 42))]) dL_law_1682 6 rfl rfl (by decide) rfl ?_
            refine nmL hf (fun x218 hf => ?_)
            refine rw_goto (tgt := 23) dL_law_1685 (by decide) ?_
            refine rw_sub [3, 4, 5, 6, 0] rfl ?_
            exact ih (cc + 3) (cs + 18) (bud (c := 3) hbc (by decide)) (bud (c := 18) hbs (by decide)) x218 q215.2 _ hr hf
          · rw [if_pos c217] at hf
            refine rw_aload_n dL_law_1066 5 rfl rfl ?_
            refine rw_iconst (v := 0) dL_law_1067 (by decide) ?_
            obtain ⟨hi219, hf⟩ := grd hf
            refine sl_42 hr dL_law_1068 (inB_in hi219) ?_
            refine rw_iload dL_law_1069 0 rfl ?_
            refine rw_i2l dL_law_1071 ?_
            refine rw_lcmp dL_law_1072 ?_
            refine rw_if_eq (tgt := 1078) dL_law_1073 (by decide) (fun c220 => ?_) (fun c220 => ?_)
            · rw [if_pos c220] at hf
              refine rw_goto (tgt := 1682) dL_law_1078 (by decide) ?_
              refine rw_iinc (v := v4 + 6) (lv2 := [(4, .int (v4 + 6)), (6, .int x214), (5, .int x210), (0, .ref G.2.2.2.1.1), (1, .ref (ad 0)), (2, .ref (ad 43)), (3, .ref (ad 42))]) dL_law_1682 6 rfl rfl (by decide) rfl ?_
              refine nmL hf (fun x221 hf => ?_)
              refine rw_goto (tgt := 23) dL_law_1685 (by decide) ?_
              refine rw_sub [3, 4, 5, 6, 0] rfl ?_
              exact ih (cc + 3) (cs + 18) (bud (c := 3) hbc (by decide)) (bud (c := 18) hbs (by decide)) x221 q215.2 _ hr hf
            · rw [if_neg c220] at hf
              refine rw_iconst (v := 0) dL_law_1076 (by decide) ?_
              replace hf := Option.some.inj hf
              subst hf
              exact rw_zreturn dL_law_1077 rfl (by decide) (hQ _ hr) (by show (cc + 3) ≤ 601024; omega) (by show (cs + 18) ≤ 7293034; omega)
        · rw [if_neg c216] at hf
          refine rw_iconst (v := 0) dL_law_1059 (by decide) ?_
          replace hf := Option.some.inj hf
          subst hf
          exact rw_zreturn dL_law_1060 rfl (by decide) (hQ _ hr) (by show (cc + 3) ≤ 601024; omega) (by show (cs + 18) ≤ 7293034; omega)
      rw [if_neg c206] at hf
      by_cases c222 : ((g.2.2 v4.toNatClampNeg) &&& 31) = 16
      · rw [if_pos c222] at hf
        refine rw_top c222 (rw_tableIn (off := 1041) (tgt := 1081) dL_law_40 (by decide) (by decide) rfl (by decide) ?_)
        refine rw_aload_n dL_law_1081 1 rfl rfl ?_
        refine rw_aload_n dL_law_1082 0 rfl rfl ?_
        refine rw_iload dL_law_1083 4 rfl ?_
        refine rw_iconst (v := 1) dL_law_1085 (by decide) ?_
        refine rw_iadd dL_law_1086 ?_
        obtain ⟨hi223, hf⟩ := grd hf
        refine rw_sc hg dL_law_1087 (inB_in hi223) ?_
        refine rw_aload_n dL_law_1088 0 rfl rfl ?_
        refine rw_iload dL_law_1089 4 rfl ?_
        refine rw_iconst (v := 2) dL_law_1091 (by decide) ?_
        refine rw_iadd dL_law_1092 ?_
        obtain ⟨hi224, hf⟩ := grd hf
        refine rw_sc hg dL_law_1093 (inB_in hi224) ?_
        refine rw_aload_n dL_law_1094 3 rfl rfl ?_
        obtain ⟨q225, hq225, hf⟩ := bnd hf
        refine kW_I (ad := ad) (As := [.ref (ad 0), .int (g.2.2 (v4 + 1).toNatClampNeg), .int (g.2.2 (v4 + 2).toNatClampNeg), .ref (ad 42)]) (st := []) dL_law_1095 calL_bedOf wm1054 wm1055 rfl rfl (Nat.le_of_ble_eq_true rfl) ⟨⟨by decide, by decide⟩, by show cc + 3 ≤ 601024; omega, by show cs + 18 ≤ 7293034; omega⟩ (cmL_bedOf hr hq225) (fun h hr => ?_)
        refine nmI hf (fun x226 hf => ?_)
        refine rw_istore (lv2 := [(5, .int x226), (0, .ref G.2.2.2.1.1), (1, .ref (ad 0)), (2, .ref (ad 43)), (3, .ref (ad 42)), (4, .int v4)]) dL_law_1098 (by decide) rfl ?_
        refine rw_aload_n dL_law_1100 3 rfl rfl ?_
        refine rw_aload_n dL_law_1101 1 rfl rfl ?_
        refine rw_iload dL_law_1102 5 rfl ?_
        refine rw_iconst (v := 1) dL_law_1104 (by decide) ?_
        refine rw_iadd dL_law_1105 ?_
        obtain ⟨hi227, hf⟩ := grd hf
        refine rw_sc hg dL_law_1106 (inB_in hi227) ?_
        refine rw_aload_n dL_law_1107 1 rfl rfl ?_
        refine rw_iload dL_law_1108 5 rfl ?_
        refine rw_iconst (v := 2) dL_law_1110 (by decide) ?_
        refine rw_iadd dL_law_1111 ?_
        obtain ⟨hi228, hf⟩ := grd hf
        refine rw_sc hg dL_law_1112 (inB_in hi228) ?_
        obtain ⟨q229, hq229, hf⟩ := bnd hf
        refine kV_I (ad := ad) (As := [.int (g.2.2 (v4 + 1).toNatClampNeg), .int (g.2.2 (v4 + 2).toNatClampNeg)]) (st := []) dL_law_1113 calX12_bedOf wm1764 wm1765 wm1766 rfl rfl (rc_43 hr) (ci := 12) (by decide) rfl rfl (Nat.le_of_ble_eq_true rfl) ⟨⟨by decide, by decide⟩, by show (cc + 3) + 0 ≤ 601024; omega, by show (cs + 18) + 0 ≤ 7293034; omega⟩ (cmX12_bedOf hr hq229) (fun h hr => ?_)
        refine nmI hf (fun x230 hf => ?_)
        refine rw_istore (lv2 := [(6, .int x230), (5, .int x226), (0, .ref G.2.2.2.1.1), (1, .ref (ad 0)), (2, .ref (ad 43)), (3, .ref (ad 42)), (4, .int v4)]) dL_law_1116 (by decide) rfl ?_
        refine rw_aload_n dL_law_1118 4 rfl rfl ?_
        obtain ⟨q231, hq231, hf⟩ := bnd hf
        refine kV_I (ad := ad) (As := []) (st := []) dL_law_1119 calX12_thrown wm1601 wm1602 wm1603 rfl rfl (rc_43 hr) (ci := 12) (by decide) rfl rfl (Nat.le_of_ble_eq_true rfl) ⟨⟨by decide, by decide⟩, by show (cc + 3) + 0 ≤ 601024; omega, by show (cs + 18) + 0 ≤ 7293034; omega⟩ (cmX12_thrown hr hq231) (fun h hr => ?_)
        refine rw_iload dL_law_1122 1 rfl ?_
        refine rw_icmp_eq (tgt := 1129) dL_law_1124 (by decide) (fun c232 => ?_) (fun c232 => ?_)
        · rw [if_pos c232] at hf
          refine rw_iload dL_law_1129 1 rfl ?_
          refine rw_if_ne (tgt := 1146) dL_law_1131 (by decide) (fun c233 => ?_) (fun c233 => ?_)
          · rw [if_neg c233] at hf
            refine rw_goto (tgt := 1682) dL_law_1146 (by decide) ?_
            refine rw_iinc (v := v4 + 6) (lv2 := [(4, .int (v4 + 6)), (6, .int x230), (5, .int x226), (0, .ref G.2.2.2.1.1), (1, .ref (ad 0)), (2, .ref (ad 43)), (3, .ref (ad 42))]) dL_law_1682 6 rfl rfl (by decide) rfl ?_
            refine nmL hf (fun x234 hf => ?_)
            refine rw_goto (tgt := 23) dL_law_1685 (by decide) ?_
            refine rw_sub [3, 4, 5, 6, 0] rfl ?_
            exact ih (cc + 3) (cs + 18) (bud (c := 3) hbc (by decide)) (bud (c := 18) hbs (by decide)) x234 q231.2 _ hr hf
          · rw [if_pos c233] at hf
            refine rw_aload_n dL_law_1134 5 rfl rfl ?_
            refine rw_iconst (v := 0) dL_law_1135 (by decide) ?_
            obtain ⟨hi235, hf⟩ := grd hf
            refine sl_42 hr dL_law_1136 (inB_in hi235) ?_
            refine rw_iload dL_law_1137 0 rfl ?_
            refine rw_i2l dL_law_1139 ?_
            refine rw_lcmp dL_law_1140 ?_
            refine rw_if_eq (tgt := 1146) dL_law_1141 (by decide) (fun c236 => ?_) (fun c236 => ?_)
            · rw [if_pos c236] at hf
              refine rw_goto (tgt := 1682) dL_law_1146 (by decide) ?_
              refine rw_iinc (v := v4 + 6) (lv2 := [(4, .int (v4 + 6)), (6, .int x230), (5, .int x226), (0, .ref G.2.2.2.1.1), (1, .ref (ad 0)), (2, .ref (ad 43)), (3, .ref (ad 42))]) dL_law_1682 6 rfl rfl (by decide) rfl ?_
              refine nmL hf (fun x237 hf => ?_)
              refine rw_goto (tgt := 23) dL_law_1685 (by decide) ?_
              refine rw_sub [3, 4, 5, 6, 0] rfl ?_
              exact ih (cc + 3) (cs + 18) (bud (c := 3) hbc (by decide)) (bud (c := 18) hbs (by decide)) x237 q231.2 _ hr hf
            · rw [if_neg c236] at hf
              refine rw_iconst (v := 0) dL_law_1144 (by decide) ?_
              replace hf := Option.some.inj hf
              subst hf
              exact rw_zreturn dL_law_1145 rfl (by decide) (hQ _ hr) (by show (cc + 3) ≤ 601024; omega) (by show (cs + 18) ≤ 7293034; omega)
        · rw [if_neg c232] at hf
          refine rw_iconst (v := 0) dL_law_1127 (by decide) ?_
          replace hf := Option.some.inj hf
          subst hf
          exact rw_zreturn dL_law_1128 rfl (by decide) (hQ _ hr) (by show (cc + 3) ≤ 601024; omega) (by show (cs + 18) ≤ 7293034; omega)
      rw [if_neg c222] at hf
      by_cases c238 : ((g.2.2 v4.toNatClampNeg) &&& 31) = 17
      · rw [if_pos c238] at hf
        refine rw_top c238 (rw_tableIn (off := 1109) (tgt := 1149) dL_law_40 (by decide) (by decide) rfl (by decide) ?_)
        refine rw_aload_n dL_law_1149 1 rfl rfl ?_
        refine rw_aload_n dL_law_1150 0 rfl rfl ?_
        refine rw_iload dL_law_1151 4 rfl ?_
        refine rw_iconst (v := 1) dL_law_1153 (by decide) ?_
        refine rw_iadd dL_law_1154 ?_
        obtain ⟨hi239, hf⟩ := grd hf
        refine rw_sc hg dL_law_1155 (inB_in hi239) ?_
        refine rw_aload_n dL_law_1156 0 rfl rfl ?_
        refine rw_iload dL_law_1157 4 rfl ?_
        refine rw_iconst (v := 2) dL_law_1159 (by decide) ?_
        refine rw_iadd dL_law_1160 ?_
        obtain ⟨hi240, hf⟩ := grd hf
        refine rw_sc hg dL_law_1161 (inB_in hi240) ?_
        refine rw_aload_n dL_law_1162 0 rfl rfl ?_
        refine rw_iload dL_law_1163 4 rfl ?_
        refine rw_iconst (v := 3) dL_law_1165 (by decide) ?_
        refine rw_iadd dL_law_1166 ?_
        obtain ⟨hi241, hf⟩ := grd hf
        refine rw_sc hg dL_law_1167 (inB_in hi241) ?_
        refine rw_aload_n dL_law_1168 0 rfl rfl ?_
        refine rw_iload dL_law_1169 4 rfl ?_
        refine rw_iconst (v := 4) dL_law_1171 (by decide) ?_
        refine rw_iadd dL_law_1172 ?_
        obtain ⟨hi242, hf⟩ := grd hf
        refine rw_sc hg dL_law_1173 (inB_in hi242) ?_
        refine rw_aload_n dL_law_1174 3 rfl rfl ?_
        obtain ⟨q243, hq243, hf⟩ := bnd hf
        refine kW_I (ad := ad) (As := [.ref (ad 0), .int (g.2.2 (v4 + 1).toNatClampNeg), .int (g.2.2 (v4 + 2).toNatClampNeg), .int (g.2.2 (v4 + 3).toNatClampNeg), .int (g.2.2 (v4 + 4).toNatClampNeg), .ref (ad 42)]) (st := []) dL_law_1175 calL_at wm1062 wm1063 rfl rfl (Nat.le_of_ble_eq_true rfl) ⟨⟨by decide, by decide⟩, by show cc + 4 ≤ 601024; omega, by show cs + 24 ≤ 7293034; omega⟩ (cmL_at hr hq243) (fun h hr => ?_)
        refine nmI hf (fun x244 hf => ?_)
        refine rw_istore (lv2 := [(5, .int x244), (0, .ref G.2.2.2.1.1), (1, .ref (ad 0)), (2, .ref (ad 43)), (3, .ref (ad 42)), (4, .int v4)]) dL_law_1178 (by decide) rfl ?_
        refine rw_aload_n dL_law_1180 3 rfl rfl ?_
        refine rw_aload_n dL_law_1181 1 rfl rfl ?_
        refine rw_iload dL_law_1182 5 rfl ?_
        refine rw_iconst (v := 1) dL_law_1184 (by decide) ?_
        refine rw_iadd dL_law_1185 ?_
        obtain ⟨hi245, hf⟩ := grd hf
        refine rw_sc hg dL_law_1186 (inB_in hi245) ?_
        refine rw_aload_n dL_law_1187 1 rfl rfl ?_
        refine rw_iload dL_law_1188 5 rfl ?_
        refine rw_iconst (v := 2) dL_law_1190 (by decide) ?_
        refine rw_iadd dL_law_1191 ?_
        obtain ⟨hi246, hf⟩ := grd hf
        refine rw_sc hg dL_law_1192 (inB_in hi246) ?_
        refine rw_aload_n dL_law_1193 1 rfl rfl ?_
        refine rw_iload dL_law_1194 5 rfl ?_
        refine rw_iconst (v := 3) dL_law_1196 (by decide) ?_
        refine rw_iadd dL_law_1197 ?_
        obtain ⟨hi247, hf⟩ := grd hf
        refine rw_sc hg dL_law_1198 (inB_in hi247) ?_
        refine rw_aload_n dL_law_1199 1 rfl rfl ?_
        refine rw_iload dL_law_1200 5 rfl ?_
        refine rw_iconst (v := 4) dL_law_1202 (by decide) ?_
        refine rw_iadd dL_law_1203 ?_
        obtain ⟨hi248, hf⟩ := grd hf
        refine rw_sc hg dL_law_1204 (inB_in hi248) ?_
        obtain ⟨q249, hq249, hf⟩ := bnd hf
        refine kV_J (ad := ad) (As := [.int (g.2.2 (v4 + 1).toNatClampNeg), .int (g.2.2 (v4 + 2).toNatClampNeg), .int (g.2.2 (v4 + 3).toNatClampNeg), .int (g.2.2 (v4 + 4).toNatClampNeg)]) (st := []) dL_law_1205 calX12_at_ wm1768 wm1769 wm1770 rfl rfl (rc_43 hr) (ci := 12) (by decide) rfl rfl (Nat.le_of_ble_eq_true rfl) ⟨⟨by decide, by decide⟩, by show (cc + 4) + 0 ≤ 601024; omega, by show (cs + 24) + 0 ≤ 7293034; omega⟩ (cmX12_at_ hr hq249) (fun h hr => ?_)
        refine nmJ hf (fun x250 hf => ?_)
        refine rw_lstore (lv2 := [(6, .long x250), (5, .int x244), (0, .ref G.2.2.2.1.1), (1, .ref (ad 0)), (2, .ref (ad 43)), (3, .ref (ad 42)), (4, .int v4)]) dL_law_1208 (by decide) rfl ?_
        refine rw_aload_n dL_law_1210 4 rfl rfl ?_
        obtain ⟨q251, hq251, hf⟩ := bnd hf
        refine kV_I (ad := ad) (As := []) (st := []) dL_law_1211 calX12_thrown wm1601 wm1602 wm1603 rfl rfl (rc_43 hr) (ci := 12) (by decide) rfl rfl (Nat.le_of_ble_eq_true rfl) ⟨⟨by decide, by decide⟩, by show (cc + 4) + 0 ≤ 601024; omega, by show (cs + 24) + 0 ≤ 7293034; omega⟩ (cmX12_thrown hr hq251) (fun h hr => ?_)
        refine rw_iload dL_law_1214 1 rfl ?_
        refine rw_icmp_eq (tgt := 1221) dL_law_1216 (by decide) (fun c252 => ?_) (fun c252 => ?_)
        · rw [if_pos c252] at hf
          refine rw_iload dL_law_1221 1 rfl ?_
          refine rw_if_ne (tgt := 1237) dL_law_1223 (by decide) (fun c253 => ?_) (fun c253 => ?_)
          · rw [if_neg c253] at hf
            refine rw_goto (tgt := 1682) dL_law_1237 (by decide) ?_
            refine rw_iinc (v := v4 + 6) (lv2 := [(4, .int (v4 + 6)), (6, .long x250), (5, .int x244), (0, .ref G.2.2.2.1.1), (1, .ref (ad 0)), (2, .ref (ad 43)), (3, .ref (ad 42))]) dL_law_1682 6 rfl rfl (by decide) rfl ?_
            refine nmL hf (fun x254 hf => ?_)
            refine rw_goto (tgt := 23) dL_law_1685 (by decide) ?_
            refine rw_sub [3, 4, 5, 6, 0] rfl ?_
            exact ih (cc + 4) (cs + 24) (bud (c := 4) hbc (by decide)) (bud (c := 24) hbs (by decide)) x254 q251.2 _ hr hf
          · rw [if_pos c253] at hf
            refine rw_aload_n dL_law_1226 5 rfl rfl ?_
            refine rw_iconst (v := 0) dL_law_1227 (by decide) ?_
            obtain ⟨hi255, hf⟩ := grd hf
            refine sl_42 hr dL_law_1228 (inB_in hi255) ?_
            refine rw_lload dL_law_1229 0 rfl ?_
            refine rw_lcmp dL_law_1231 ?_
            refine rw_if_eq (tgt := 1237) dL_law_1232 (by decide) (fun c256 => ?_) (fun c256 => ?_)
            · rw [if_pos c256] at hf
              refine rw_goto (tgt := 1682) dL_law_1237 (by decide) ?_
              refine rw_iinc (v := v4 + 6) (lv2 := [(4, .int (v4 + 6)), (6, .long x250), (5, .int x244), (0, .ref G.2.2.2.1.1), (1, .ref (ad 0)), (2, .ref (ad 43)), (3, .ref (ad 42))]) dL_law_1682 6 rfl rfl (by decide) rfl ?_
              refine nmL hf (fun x257 hf => ?_)
              refine rw_goto (tgt := 23) dL_law_1685 (by decide) ?_
              refine rw_sub [3, 4, 5, 6, 0] rfl ?_
              exact ih (cc + 4) (cs + 24) (bud (c := 4) hbc (by decide)) (bud (c := 24) hbs (by decide)) x257 q251.2 _ hr hf
            · rw [if_neg c256] at hf
              refine rw_iconst (v := 0) dL_law_1235 (by decide) ?_
              replace hf := Option.some.inj hf
              subst hf
              exact rw_zreturn dL_law_1236 rfl (by decide) (hQ _ hr) (by show (cc + 4) ≤ 601024; omega) (by show (cs + 24) ≤ 7293034; omega)
        · rw [if_neg c252] at hf
          refine rw_iconst (v := 0) dL_law_1219 (by decide) ?_
          replace hf := Option.some.inj hf
          subst hf
          exact rw_zreturn dL_law_1220 rfl (by decide) (hQ _ hr) (by show (cc + 4) ≤ 601024; omega) (by show (cs + 24) ≤ 7293034; omega)
      rw [if_neg c238] at hf
      by_cases c258 : ((g.2.2 v4.toNatClampNeg) &&& 31) = 18
      · rw [if_pos c258] at hf
        refine rw_top c258 (rw_tableIn (off := 1200) (tgt := 1240) dL_law_40 (by decide) (by decide) rfl (by decide) ?_)
        refine rw_aload_n dL_law_1240 1 rfl rfl ?_
        refine rw_aload_n dL_law_1241 0 rfl rfl ?_
        refine rw_iload dL_law_1242 4 rfl ?_
        refine rw_iconst (v := 1) dL_law_1244 (by decide) ?_
        refine rw_iadd dL_law_1245 ?_
        obtain ⟨hi259, hf⟩ := grd hf
        refine rw_sc hg dL_law_1246 (inB_in hi259) ?_
        refine rw_aload_n dL_law_1247 0 rfl rfl ?_
        refine rw_iload dL_law_1248 4 rfl ?_
        refine rw_iconst (v := 2) dL_law_1250 (by decide) ?_
        refine rw_iadd dL_law_1251 ?_
        obtain ⟨hi260, hf⟩ := grd hf
        refine rw_sc hg dL_law_1252 (inB_in hi260) ?_
        refine rw_aload_n dL_law_1253 0 rfl rfl ?_
        refine rw_iload dL_law_1254 4 rfl ?_
        refine rw_iconst (v := 3) dL_law_1256 (by decide) ?_
        refine rw_iadd dL_law_1257 ?_
        obtain ⟨hi261, hf⟩ := grd hf
        refine rw_sc hg dL_law_1258 (inB_in hi261) ?_
        refine rw_aload_n dL_law_1259 0 rfl rfl ?_
        refine rw_iload dL_law_1260 4 rfl ?_
        refine rw_iconst (v := 4) dL_law_1262 (by decide) ?_
        refine rw_iadd dL_law_1263 ?_
        obtain ⟨hi262, hf⟩ := grd hf
        refine rw_sc hg dL_law_1264 (inB_in hi262) ?_
        refine rw_aload_n dL_law_1265 3 rfl rfl ?_
        obtain ⟨q263, hq263, hf⟩ := bnd hf
        refine kW_I (ad := ad) (As := [.ref (ad 0), .int (g.2.2 (v4 + 1).toNatClampNeg), .int (g.2.2 (v4 + 2).toNatClampNeg), .int (g.2.2 (v4 + 3).toNatClampNeg), .int (g.2.2 (v4 + 4).toNatClampNeg), .ref (ad 42)]) (st := []) dL_law_1266 calL_wet wm1119 wm1120 rfl rfl (Nat.le_of_ble_eq_true rfl) ⟨⟨by decide, by decide⟩, by show cc + 4 ≤ 601024; omega, by show cs + 24 ≤ 7293034; omega⟩ (cmL_wet hr hq263) (fun h hr => ?_)
        refine nmI hf (fun x264 hf => ?_)
        refine rw_istore (lv2 := [(5, .int x264), (0, .ref G.2.2.2.1.1), (1, .ref (ad 0)), (2, .ref (ad 43)), (3, .ref (ad 42)), (4, .int v4)]) dL_law_1269 (by decide) rfl ?_
        refine rw_aload_n dL_law_1271 3 rfl rfl ?_
        refine rw_aload_n dL_law_1272 1 rfl rfl ?_
        refine rw_iload dL_law_1273 5 rfl ?_
        refine rw_iconst (v := 1) dL_law_1275 (by decide) ?_
        refine rw_iadd dL_law_1276 ?_
        obtain ⟨hi265, hf⟩ := grd hf
        refine rw_sc hg dL_law_1277 (inB_in hi265) ?_
        refine rw_aload_n dL_law_1278 1 rfl rfl ?_
        refine rw_iload dL_law_1279 5 rfl ?_
        refine rw_iconst (v := 2) dL_law_1281 (by decide) ?_
        refine rw_iadd dL_law_1282 ?_
        obtain ⟨hi266, hf⟩ := grd hf
        refine rw_sc hg dL_law_1283 (inB_in hi266) ?_
        refine rw_aload_n dL_law_1284 1 rfl rfl ?_
        refine rw_iload dL_law_1285 5 rfl ?_
        refine rw_iconst (v := 3) dL_law_1287 (by decide) ?_
        refine rw_iadd dL_law_1288 ?_
        obtain ⟨hi267, hf⟩ := grd hf
        refine rw_sc hg dL_law_1289 (inB_in hi267) ?_
        refine rw_aload_n dL_law_1290 1 rfl rfl ?_
        refine rw_iload dL_law_1291 5 rfl ?_
        refine rw_iconst (v := 4) dL_law_1293 (by decide) ?_
        refine rw_iadd dL_law_1294 ?_
        obtain ⟨hi268, hf⟩ := grd hf
        refine rw_sc hg dL_law_1295 (inB_in hi268) ?_
        obtain ⟨q269, hq269, hf⟩ := bnd hf
        refine kV_J (ad := ad) (As := [.int (g.2.2 (v4 + 1).toNatClampNeg), .int (g.2.2 (v4 + 2).toNatClampNeg), .int (g.2.2 (v4 + 3).toNatClampNeg), .int (g.2.2 (v4 + 4).toNatClampNeg)]) (st := []) dL_law_1296 calX12_wet wm1792 wm1793 wm1794 rfl rfl (rc_43 hr) (ci := 12) (by decide) rfl rfl (Nat.le_of_ble_eq_true rfl) ⟨⟨by decide, by decide⟩, by show (cc + 4) + 0 ≤ 601024; omega, by show (cs + 24) + 0 ≤ 7293034; omega⟩ (cmX12_wet hr hq269) (fun h hr => ?_)
        refine nmJ hf (fun x270 hf => ?_)
        refine rw_lstore (lv2 := [(6, .long x270), (5, .int x264), (0, .ref G.2.2.2.1.1), (1, .ref (ad 0)), (2, .ref (ad 43)), (3, .ref (ad 42)), (4, .int v4)]) dL_law_1299 (by decide) rfl ?_
        refine rw_aload_n dL_law_1301 4 rfl rfl ?_
        obtain ⟨q271, hq271, hf⟩ := bnd hf
        refine kV_I (ad := ad) (As := []) (st := []) dL_law_1302 calX12_thrown wm1601 wm1602 wm1603 rfl rfl (rc_43 hr) (ci := 12) (by decide) rfl rfl (Nat.le_of_ble_eq_true rfl) ⟨⟨by decide, by decide⟩, by show (cc + 4) + 0 ≤ 601024; omega, by show (cs + 24) + 0 ≤ 7293034; omega⟩ (cmX12_thrown hr hq271) (fun h hr => ?_)
        refine rw_iload dL_law_1305 1 rfl ?_
        refine rw_icmp_eq (tgt := 1312) dL_law_1307 (by decide) (fun c272 => ?_) (fun c272 => ?_)
        · rw [if_pos c272] at hf
          refine rw_iload dL_law_1312 1 rfl ?_
          refine rw_if_ne (tgt := 1328) dL_law_1314 (by decide) (fun c273 => ?_) (fun c273 => ?_)
          · rw [if_neg c273] at hf
            refine rw_goto (tgt := 1682) dL_law_1328 (by decide) ?_
            refine rw_iinc (v := v4 + 6) (lv2 := [(4, .int (v4 + 6)), (6, .long x270), (5, .int x264), (0, .ref G.2.2.2.1.1), (1, .ref (ad 0)), (2, .ref (ad 43)), (3, .ref (ad 42))]) dL_law_1682 6 rfl rfl (by decide) rfl ?_
            refine nmL hf (fun x274 hf => ?_)
            refine rw_goto (tgt := 23) dL_law_1685 (by decide) ?_
            refine rw_sub [3, 4, 5, 6, 0] rfl ?_
            exact ih (cc + 4) (cs + 24) (bud (c := 4) hbc (by decide)) (bud (c := 24) hbs (by decide)) x274 q271.2 _ hr hf
          · rw [if_pos c273] at hf
            refine rw_aload_n dL_law_1317 5 rfl rfl ?_
            refine rw_iconst (v := 0) dL_law_1318 (by decide) ?_
            obtain ⟨hi275, hf⟩ := grd hf
            refine sl_42 hr dL_law_1319 (inB_in hi275) ?_
            refine rw_lload dL_law_1320 0 rfl ?_
            refine rw_lcmp dL_law_1322 ?_
            refine rw_if_eq (tgt := 1328) dL_law_1323 (by decide) (fun c276 => ?_) (fun c276 => ?_)
            · rw [if_pos c276] at hf
              refine rw_goto (tgt := 1682) dL_law_1328 (by decide) ?_
              refine rw_iinc (v := v4 + 6) (lv2 := [(4, .int (v4 + 6)), (6, .long x270), (5, .int x264), (0, .ref G.2.2.2.1.1), (1, .ref (ad 0)), (2, .ref (ad 43)), (3, .ref (ad 42))]) dL_law_1682 6 rfl rfl (by decide) rfl ?_
              refine nmL hf (fun x277 hf => ?_)
              refine rw_goto (tgt := 23) dL_law_1685 (by decide) ?_
              refine rw_sub [3, 4, 5, 6, 0] rfl ?_
              exact ih (cc + 4) (cs + 24) (bud (c := 4) hbc (by decide)) (bud (c := 24) hbs (by decide)) x277 q271.2 _ hr hf
            · rw [if_neg c276] at hf
              refine rw_iconst (v := 0) dL_law_1326 (by decide) ?_
              replace hf := Option.some.inj hf
              subst hf
              exact rw_zreturn dL_law_1327 rfl (by decide) (hQ _ hr) (by show (cc + 4) ≤ 601024; omega) (by show (cs + 24) ≤ 7293034; omega)
        · rw [if_neg c272] at hf
          refine rw_iconst (v := 0) dL_law_1310 (by decide) ?_
          replace hf := Option.some.inj hf
          subst hf
          exact rw_zreturn dL_law_1311 rfl (by decide) (hQ _ hr) (by show (cc + 4) ≤ 601024; omega) (by show (cs + 24) ≤ 7293034; omega)
      rw [if_neg c258] at hf
      by_cases c278 : ((g.2.2 v4.toNatClampNeg) &&& 31) = 19
      · rw [if_pos c278] at hf
        refine rw_top c278 (rw_tableIn (off := 1291) (tgt := 1331) dL_law_40 (by decide) (by decide) rfl (by decide) ?_)
        refine rw_aload_n dL_law_1331 1 rfl rfl ?_
        refine rw_aload_n dL_law_1332 0 rfl rfl ?_
        refine rw_iload dL_law_1333 4 rfl ?_
        refine rw_iconst (v := 1) dL_law_1335 (by decide) ?_
        refine rw_iadd dL_law_1336 ?_
        obtain ⟨hi279, hf⟩ := grd hf
        refine rw_sc hg dL_law_1337 (inB_in hi279) ?_
        refine rw_aload_n dL_law_1338 0 rfl rfl ?_
        refine rw_iload dL_law_1339 4 rfl ?_
        refine rw_iconst (v := 2) dL_law_1341 (by decide) ?_
        refine rw_iadd dL_law_1342 ?_
        obtain ⟨hi280, hf⟩ := grd hf
        refine rw_sc hg dL_law_1343 (inB_in hi280) ?_
        refine rw_aload_n dL_law_1344 0 rfl rfl ?_
        refine rw_iload dL_law_1345 4 rfl ?_
        refine rw_iconst (v := 3) dL_law_1347 (by decide) ?_
        refine rw_iadd dL_law_1348 ?_
        obtain ⟨hi281, hf⟩ := grd hf
        refine rw_sc hg dL_law_1349 (inB_in hi281) ?_
        refine rw_aload_n dL_law_1350 0 rfl rfl ?_
        refine rw_iload dL_law_1351 4 rfl ?_
        refine rw_iconst (v := 4) dL_law_1353 (by decide) ?_
        refine rw_iadd dL_law_1354 ?_
        obtain ⟨hi282, hf⟩ := grd hf
        refine rw_sc hg dL_law_1355 (inB_in hi282) ?_
        refine rw_aload_n dL_law_1356 0 rfl rfl ?_
        refine rw_iload dL_law_1357 4 rfl ?_
        refine rw_iconst (v := 5) dL_law_1359 (by decide) ?_
        refine rw_iadd dL_law_1360 ?_
        obtain ⟨hi283, hf⟩ := grd hf
        refine rw_sc hg dL_law_1361 (inB_in hi283) ?_
        refine rw_aload_n dL_law_1362 3 rfl rfl ?_
        obtain ⟨q284, hq284, hf⟩ := bnd hf
        refine kW_I (ad := ad) (As := [.ref (ad 0), .int (g.2.2 (v4 + 1).toNatClampNeg), .int (g.2.2 (v4 + 2).toNatClampNeg), .int (g.2.2 (v4 + 3).toNatClampNeg), .int (g.2.2 (v4 + 4).toNatClampNeg), .int (g.2.2 (v4 + 5).toNatClampNeg), .ref (ad 42)]) (st := []) dL_law_1363 calL_volume wm1126 wm1127 rfl rfl (Nat.le_of_ble_eq_true rfl) ⟨⟨by decide, by decide⟩, by show cc + 2 ≤ 601024; omega, by show cs + 12 ≤ 7293034; omega⟩ (cmL_volume hr hq284) (fun h hr => ?_)
        refine nmI hf (fun x285 hf => ?_)
        refine rw_istore (lv2 := [(5, .int x285), (0, .ref G.2.2.2.1.1), (1, .ref (ad 0)), (2, .ref (ad 43)), (3, .ref (ad 42)), (4, .int v4)]) dL_law_1366 (by decide) rfl ?_
        refine rw_aload_n dL_law_1368 3 rfl rfl ?_
        refine rw_aload_n dL_law_1369 1 rfl rfl ?_
        refine rw_iload dL_law_1370 5 rfl ?_
        refine rw_iconst (v := 1) dL_law_1372 (by decide) ?_
        refine rw_iadd dL_law_1373 ?_
        obtain ⟨hi286, hf⟩ := grd hf
        refine rw_sc hg dL_law_1374 (inB_in hi286) ?_
        refine rw_aload_n dL_law_1375 1 rfl rfl ?_
        refine rw_iload dL_law_1376 5 rfl ?_
        refine rw_iconst (v := 2) dL_law_1378 (by decide) ?_
        refine rw_iadd dL_law_1379 ?_
        obtain ⟨hi287, hf⟩ := grd hf
        refine rw_sc hg dL_law_1380 (inB_in hi287) ?_
        refine rw_aload_n dL_law_1381 1 rfl rfl ?_
        refine rw_iload dL_law_1382 5 rfl ?_
        refine rw_iconst (v := 3) dL_law_1384 (by decide) ?_
        refine rw_iadd dL_law_1385 ?_
        obtain ⟨hi288, hf⟩ := grd hf
        refine rw_sc hg dL_law_1386 (inB_in hi288) ?_
        refine rw_aload_n dL_law_1387 1 rfl rfl ?_
        refine rw_iload dL_law_1388 5 rfl ?_
        refine rw_iconst (v := 4) dL_law_1390 (by decide) ?_
        refine rw_iadd dL_law_1391 ?_
        obtain ⟨hi289, hf⟩ := grd hf
        refine rw_sc hg dL_law_1392 (inB_in hi289) ?_
        refine rw_aload_n dL_law_1393 1 rfl rfl ?_
        refine rw_iload dL_law_1394 5 rfl ?_
        refine rw_iconst (v := 5) dL_law_1396 (by decide) ?_
        refine rw_iadd dL_law_1397 ?_
        obtain ⟨hi290, hf⟩ := grd hf
        refine rw_sc hg dL_law_1398 (inB_in hi290) ?_
        obtain ⟨q291, hq291, hf⟩ := bnd hf
        refine kV_J (ad := ad) (As := [.int (g.2.2 (v4 + 1).toNatClampNeg), .int (g.2.2 (v4 + 2).toNatClampNeg), .int (g.2.2 (v4 + 3).toNatClampNeg), .int (g.2.2 (v4 + 4).toNatClampNeg), .int (g.2.2 (v4 + 5).toNatClampNeg)]) (st := []) dL_law_1399 calX12_volume wm1796 wm1797 wm1798 rfl rfl (rc_43 hr) (ci := 12) (by decide) rfl rfl (Nat.le_of_ble_eq_true rfl) ⟨⟨by decide, by decide⟩, by show (cc + 2) + 0 ≤ 601024; omega, by show (cs + 12) + 0 ≤ 7293034; omega⟩ (cmX12_volume hr hq291) (fun h hr => ?_)
        refine nmJ hf (fun x292 hf => ?_)
        refine rw_lstore (lv2 := [(6, .long x292), (5, .int x285), (0, .ref G.2.2.2.1.1), (1, .ref (ad 0)), (2, .ref (ad 43)), (3, .ref (ad 42)), (4, .int v4)]) dL_law_1402 (by decide) rfl ?_
        refine rw_aload_n dL_law_1404 4 rfl rfl ?_
        obtain ⟨q293, hq293, hf⟩ := bnd hf
        refine kV_I (ad := ad) (As := []) (st := []) dL_law_1405 calX12_thrown wm1601 wm1602 wm1603 rfl rfl (rc_43 hr) (ci := 12) (by decide) rfl rfl (Nat.le_of_ble_eq_true rfl) ⟨⟨by decide, by decide⟩, by show (cc + 2) + 0 ≤ 601024; omega, by show (cs + 12) + 0 ≤ 7293034; omega⟩ (cmX12_thrown hr hq293) (fun h hr => ?_)
        refine rw_iload dL_law_1408 1 rfl ?_
        refine rw_icmp_eq (tgt := 1415) dL_law_1410 (by decide) (fun c294 => ?_) (fun c294 => ?_)
        · rw [if_pos c294] at hf
          refine rw_iload dL_law_1415 1 rfl ?_
          refine rw_if_ne (tgt := 1431) dL_law_1417 (by decide) (fun c295 => ?_) (fun c295 => ?_)
          · rw [if_neg c295] at hf
            refine rw_goto (tgt := 1682) dL_law_1431 (by decide) ?_
            refine rw_iinc (v := v4 + 6) (lv2 := [(4, .int (v4 + 6)), (6, .long x292), (5, .int x285), (0, .ref G.2.2.2.1.1), (1, .ref (ad 0)), (2, .ref (ad 43)), (3, .ref (ad 42))]) dL_law_1682 6 rfl rfl (by decide) rfl ?_
            refine nmL hf (fun x296 hf => ?_)
            refine rw_goto (tgt := 23) dL_law_1685 (by decide) ?_
            refine rw_sub [3, 4, 5, 6, 0] rfl ?_
            exact ih (cc + 2) (cs + 12) (bud (c := 2) hbc (by decide)) (bud (c := 12) hbs (by decide)) x296 q293.2 _ hr hf
          · rw [if_pos c295] at hf
            refine rw_aload_n dL_law_1420 5 rfl rfl ?_
            refine rw_iconst (v := 0) dL_law_1421 (by decide) ?_
            obtain ⟨hi297, hf⟩ := grd hf
            refine sl_42 hr dL_law_1422 (inB_in hi297) ?_
            refine rw_lload dL_law_1423 0 rfl ?_
            refine rw_lcmp dL_law_1425 ?_
            refine rw_if_eq (tgt := 1431) dL_law_1426 (by decide) (fun c298 => ?_) (fun c298 => ?_)
            · rw [if_pos c298] at hf
              refine rw_goto (tgt := 1682) dL_law_1431 (by decide) ?_
              refine rw_iinc (v := v4 + 6) (lv2 := [(4, .int (v4 + 6)), (6, .long x292), (5, .int x285), (0, .ref G.2.2.2.1.1), (1, .ref (ad 0)), (2, .ref (ad 43)), (3, .ref (ad 42))]) dL_law_1682 6 rfl rfl (by decide) rfl ?_
              refine nmL hf (fun x299 hf => ?_)
              refine rw_goto (tgt := 23) dL_law_1685 (by decide) ?_
              refine rw_sub [3, 4, 5, 6, 0] rfl ?_
              exact ih (cc + 2) (cs + 12) (bud (c := 2) hbc (by decide)) (bud (c := 12) hbs (by decide)) x299 q293.2 _ hr hf
            · rw [if_neg c298] at hf
              refine rw_iconst (v := 0) dL_law_1429 (by decide) ?_
              replace hf := Option.some.inj hf
              subst hf
              exact rw_zreturn dL_law_1430 rfl (by decide) (hQ _ hr) (by show (cc + 2) ≤ 601024; omega) (by show (cs + 12) ≤ 7293034; omega)
        · rw [if_neg c294] at hf
          refine rw_iconst (v := 0) dL_law_1413 (by decide) ?_
          replace hf := Option.some.inj hf
          subst hf
          exact rw_zreturn dL_law_1414 rfl (by decide) (hQ _ hr) (by show (cc + 2) ≤ 601024; omega) (by show (cs + 12) ≤ 7293034; omega)
      rw [if_neg c278] at hf
      by_cases c300 : ((g.2.2 v4.toNatClampNeg) &&& 31) = 20
      · rw [if_pos c300] at hf
        refine rw_top c300 (rw_tableIn (off := 1394) (tgt := 1434) dL_law_40 (by decide) (by decide) rfl (by decide) ?_)
        refine rw_aload_n dL_law_1434 1 rfl rfl ?_
        refine rw_aload_n dL_law_1435 0 rfl rfl ?_
        refine rw_iload dL_law_1436 4 rfl ?_
        refine rw_iconst (v := 1) dL_law_1438 (by decide) ?_
        refine rw_iadd dL_law_1439 ?_
        obtain ⟨hi301, hf⟩ := grd hf
        refine rw_sc hg dL_law_1440 (inB_in hi301) ?_
        refine rw_aload_n dL_law_1441 0 rfl rfl ?_
        refine rw_iload dL_law_1442 4 rfl ?_
        refine rw_iconst (v := 2) dL_law_1444 (by decide) ?_
        refine rw_iadd dL_law_1445 ?_
        obtain ⟨hi302, hf⟩ := grd hf
        refine rw_sc hg dL_law_1446 (inB_in hi302) ?_
        refine rw_aload_n dL_law_1447 0 rfl rfl ?_
        refine rw_iload dL_law_1448 4 rfl ?_
        refine rw_iconst (v := 3) dL_law_1450 (by decide) ?_
        refine rw_iadd dL_law_1451 ?_
        obtain ⟨hi303, hf⟩ := grd hf
        refine rw_sc hg dL_law_1452 (inB_in hi303) ?_
        refine rw_aload_n dL_law_1453 0 rfl rfl ?_
        refine rw_iload dL_law_1454 4 rfl ?_
        refine rw_iconst (v := 4) dL_law_1456 (by decide) ?_
        refine rw_iadd dL_law_1457 ?_
        obtain ⟨hi304, hf⟩ := grd hf
        refine rw_sc hg dL_law_1458 (inB_in hi304) ?_
        refine rw_aload_n dL_law_1459 3 rfl rfl ?_
        obtain ⟨q305, hq305, hf⟩ := bnd hf
        refine kW_I (ad := ad) (As := [.ref (ad 0), .int (g.2.2 (v4 + 1).toNatClampNeg), .int (g.2.2 (v4 + 2).toNatClampNeg), .int (g.2.2 (v4 + 3).toNatClampNeg), .int (g.2.2 (v4 + 4).toNatClampNeg), .ref (ad 42)]) (st := []) dL_law_1460 calL_later wm1151 wm1152 rfl rfl (Nat.le_of_ble_eq_true rfl) ⟨⟨by decide, by decide⟩, by show cc + 4 ≤ 601024; omega, by show cs + 24 ≤ 7293034; omega⟩ (cmL_later hr hq305) (fun h hr => ?_)
        refine nmI hf (fun x306 hf => ?_)
        refine rw_istore (lv2 := [(5, .int x306), (0, .ref G.2.2.2.1.1), (1, .ref (ad 0)), (2, .ref (ad 43)), (3, .ref (ad 42)), (4, .int v4)]) dL_law_1463 (by decide) rfl ?_
        refine rw_aload_n dL_law_1465 3 rfl rfl ?_
        refine rw_aload_n dL_law_1466 1 rfl rfl ?_
        refine rw_iload dL_law_1467 5 rfl ?_
        refine rw_iconst (v := 1) dL_law_1469 (by decide) ?_
        refine rw_iadd dL_law_1470 ?_
        obtain ⟨hi307, hf⟩ := grd hf
        refine rw_sc hg dL_law_1471 (inB_in hi307) ?_
        refine rw_aload_n dL_law_1472 1 rfl rfl ?_
        refine rw_iload dL_law_1473 5 rfl ?_
        refine rw_iconst (v := 2) dL_law_1475 (by decide) ?_
        refine rw_iadd dL_law_1476 ?_
        obtain ⟨hi308, hf⟩ := grd hf
        refine rw_sc hg dL_law_1477 (inB_in hi308) ?_
        refine rw_aload_n dL_law_1478 1 rfl rfl ?_
        refine rw_iload dL_law_1479 5 rfl ?_
        refine rw_iconst (v := 3) dL_law_1481 (by decide) ?_
        refine rw_iadd dL_law_1482 ?_
        obtain ⟨hi309, hf⟩ := grd hf
        refine rw_sc hg dL_law_1483 (inB_in hi309) ?_
        refine rw_aload_n dL_law_1484 1 rfl rfl ?_
        refine rw_iload dL_law_1485 5 rfl ?_
        refine rw_iconst (v := 4) dL_law_1487 (by decide) ?_
        refine rw_iadd dL_law_1488 ?_
        obtain ⟨hi310, hf⟩ := grd hf
        refine rw_sc hg dL_law_1489 (inB_in hi310) ?_
        obtain ⟨q311, hq311, hf⟩ := bnd hf
        refine kV_I (ad := ad) (As := [.int (g.2.2 (v4 + 1).toNatClampNeg), .int (g.2.2 (v4 + 2).toNatClampNeg), .int (g.2.2 (v4 + 3).toNatClampNeg), .int (g.2.2 (v4 + 4).toNatClampNeg)]) (st := []) dL_law_1490 calX12_later wm1807 wm1808 wm1809 rfl rfl (rc_43 hr) (ci := 12) (by decide) rfl rfl (Nat.le_of_ble_eq_true rfl) ⟨⟨by decide, by decide⟩, by show (cc + 4) + 0 ≤ 601024; omega, by show (cs + 24) + 0 ≤ 7293034; omega⟩ (cmX12_later hr hq311) (fun h hr => ?_)
        refine nmI hf (fun x312 hf => ?_)
        refine rw_istore (lv2 := [(6, .int x312), (5, .int x306), (0, .ref G.2.2.2.1.1), (1, .ref (ad 0)), (2, .ref (ad 43)), (3, .ref (ad 42)), (4, .int v4)]) dL_law_1493 (by decide) rfl ?_
        refine rw_aload_n dL_law_1495 4 rfl rfl ?_
        obtain ⟨q313, hq313, hf⟩ := bnd hf
        refine kV_I (ad := ad) (As := []) (st := []) dL_law_1496 calX12_thrown wm1601 wm1602 wm1603 rfl rfl (rc_43 hr) (ci := 12) (by decide) rfl rfl (Nat.le_of_ble_eq_true rfl) ⟨⟨by decide, by decide⟩, by show (cc + 4) + 0 ≤ 601024; omega, by show (cs + 24) + 0 ≤ 7293034; omega⟩ (cmX12_thrown hr hq313) (fun h hr => ?_)
        refine rw_iload dL_law_1499 1 rfl ?_
        refine rw_icmp_eq (tgt := 1506) dL_law_1501 (by decide) (fun c314 => ?_) (fun c314 => ?_)
        · rw [if_pos c314] at hf
          refine rw_iload dL_law_1506 1 rfl ?_
          refine rw_if_ne (tgt := 1523) dL_law_1508 (by decide) (fun c315 => ?_) (fun c315 => ?_)
          · rw [if_neg c315] at hf
            refine rw_goto (tgt := 1682) dL_law_1523 (by decide) ?_
            refine rw_iinc (v := v4 + 6) (lv2 := [(4, .int (v4 + 6)), (6, .int x312), (5, .int x306), (0, .ref G.2.2.2.1.1), (1, .ref (ad 0)), (2, .ref (ad 43)), (3, .ref (ad 42))]) dL_law_1682 6 rfl rfl (by decide) rfl ?_
            refine nmL hf (fun x316 hf => ?_)
            refine rw_goto (tgt := 23) dL_law_1685 (by decide) ?_
            refine rw_sub [3, 4, 5, 6, 0] rfl ?_
            exact ih (cc + 4) (cs + 24) (bud (c := 4) hbc (by decide)) (bud (c := 24) hbs (by decide)) x316 q313.2 _ hr hf
          · rw [if_pos c315] at hf
            refine rw_aload_n dL_law_1511 5 rfl rfl ?_
            refine rw_iconst (v := 0) dL_law_1512 (by decide) ?_
            obtain ⟨hi317, hf⟩ := grd hf
            refine sl_42 hr dL_law_1513 (inB_in hi317) ?_
            refine rw_iload dL_law_1514 0 rfl ?_
            refine rw_i2l dL_law_1516 ?_
            refine rw_lcmp dL_law_1517 ?_
            refine rw_if_eq (tgt := 1523) dL_law_1518 (by decide) (fun c318 => ?_) (fun c318 => ?_)
            · rw [if_pos c318] at hf
              refine rw_goto (tgt := 1682) dL_law_1523 (by decide) ?_
              refine rw_iinc (v := v4 + 6) (lv2 := [(4, .int (v4 + 6)), (6, .int x312), (5, .int x306), (0, .ref G.2.2.2.1.1), (1, .ref (ad 0)), (2, .ref (ad 43)), (3, .ref (ad 42))]) dL_law_1682 6 rfl rfl (by decide) rfl ?_
              refine nmL hf (fun x319 hf => ?_)
              refine rw_goto (tgt := 23) dL_law_1685 (by decide) ?_
              refine rw_sub [3, 4, 5, 6, 0] rfl ?_
              exact ih (cc + 4) (cs + 24) (bud (c := 4) hbc (by decide)) (bud (c := 24) hbs (by decide)) x319 q313.2 _ hr hf
            · rw [if_neg c318] at hf
              refine rw_iconst (v := 0) dL_law_1521 (by decide) ?_
              replace hf := Option.some.inj hf
              subst hf
              exact rw_zreturn dL_law_1522 rfl (by decide) (hQ _ hr) (by show (cc + 4) ≤ 601024; omega) (by show (cs + 24) ≤ 7293034; omega)
        · rw [if_neg c314] at hf
          refine rw_iconst (v := 0) dL_law_1504 (by decide) ?_
          replace hf := Option.some.inj hf
          subst hf
          exact rw_zreturn dL_law_1505 rfl (by decide) (hQ _ hr) (by show (cc + 4) ≤ 601024; omega) (by show (cs + 24) ≤ 7293034; omega)
      rw [if_neg c300] at hf
      by_cases c320 : ((g.2.2 v4.toNatClampNeg) &&& 31) = 21
      · rw [if_pos c320] at hf
        refine rw_top c320 (rw_tableIn (off := 1486) (tgt := 1526) dL_law_40 (by decide) (by decide) rfl (by decide) ?_)
        refine rw_aload_n dL_law_1526 1 rfl rfl ?_
        refine rw_aload_n dL_law_1527 0 rfl rfl ?_
        refine rw_iload dL_law_1528 4 rfl ?_
        refine rw_iconst (v := 1) dL_law_1530 (by decide) ?_
        refine rw_iadd dL_law_1531 ?_
        obtain ⟨hi321, hf⟩ := grd hf
        refine rw_sc hg dL_law_1532 (inB_in hi321) ?_
        refine rw_aload_n dL_law_1533 0 rfl rfl ?_
        refine rw_iload dL_law_1534 4 rfl ?_
        refine rw_iconst (v := 2) dL_law_1536 (by decide) ?_
        refine rw_iadd dL_law_1537 ?_
        obtain ⟨hi322, hf⟩ := grd hf
        refine rw_sc hg dL_law_1538 (inB_in hi322) ?_
        obtain ⟨q323, hq323, hf⟩ := bnd hf
        refine kV_I (ad := ad) (As := [.int (g.2.2 (v4 + 1).toNatClampNeg), .int (g.2.2 (v4 + 2).toNatClampNeg)]) (st := []) dL_law_1539 calX11_doubt wm681 wm682 wm683 rfl rfl (rc_0 hr) (ci := 11) (by decide) rfl rfl (Nat.le_of_ble_eq_true rfl) ⟨⟨by decide, by decide⟩, by show cc + 0 ≤ 601024; omega, by show cs + 0 ≤ 7293034; omega⟩ (cmX11_doubt hr hq323) (fun h hr => ?_)
        refine rw_aload_n dL_law_1542 2 rfl rfl ?_
        refine rw_aload_n dL_law_1543 0 rfl rfl ?_
        refine rw_iload dL_law_1544 4 rfl ?_
        refine rw_iconst (v := 1) dL_law_1546 (by decide) ?_
        refine rw_iadd dL_law_1547 ?_
        obtain ⟨hi324, hf⟩ := grd hf
        refine rw_sc hg dL_law_1548 (inB_in hi324) ?_
        refine rw_aload_n dL_law_1549 0 rfl rfl ?_
        refine rw_iload dL_law_1550 4 rfl ?_
        refine rw_iconst (v := 2) dL_law_1552 (by decide) ?_
        refine rw_iadd dL_law_1553 ?_
        obtain ⟨hi325, hf⟩ := grd hf
        refine rw_sc hg dL_law_1554 (inB_in hi325) ?_
        obtain ⟨q326, hq326, hf⟩ := bnd hf
        refine kV_I (ad := ad) (As := [.int (g.2.2 (v4 + 1).toNatClampNeg), .int (g.2.2 (v4 + 2).toNatClampNeg)]) (st := [.int q323.1]) dL_law_1555 calX12_doubt wm1811 wm1812 wm1813 rfl rfl (rc_43 hr) (ci := 12) (by decide) rfl rfl (Nat.le_of_ble_eq_true rfl) ⟨⟨by decide, by decide⟩, by show cc + 0 ≤ 601024; omega, by show cs + 0 ≤ 7293034; omega⟩ (cmX12_doubt hr hq326) (fun h hr => ?_)
        refine rw_icmp_eq (tgt := 1682) dL_law_1558 (by decide) (fun c327 => ?_) (fun c327 => ?_)
        · rw [if_pos c327] at hf
          refine rw_iinc (v := v4 + 6) (lv2 := [(4, .int (v4 + 6)), (0, .ref G.2.2.2.1.1), (1, .ref (ad 0)), (2, .ref (ad 43)), (3, .ref (ad 42))]) dL_law_1682 4 rfl rfl (by decide) rfl ?_
          refine nmL hf (fun x328 hf => ?_)
          refine rw_goto (tgt := 23) dL_law_1685 (by decide) ?_
          refine rw_sub [1, 2, 3, 4, 0] rfl ?_
          exact ih cc cs (bud0 hbc) (bud0 hbs) x328 q326.2 _ hr hf
        · rw [if_neg c327] at hf
          refine rw_iconst (v := 0) dL_law_1561 (by decide) ?_
          replace hf := Option.some.inj hf
          subst hf
          exact rw_zreturn dL_law_1562 rfl (by decide) (hQ _ hr) (by show cc ≤ 601024; omega) (by show cs ≤ 7293034; omega)
      rw [if_neg c320] at hf
      by_cases c329 : ((g.2.2 v4.toNatClampNeg) &&& 31) = 22
      · rw [if_pos c329] at hf
        refine rw_top c329 (rw_tableIn (off := 1523) (tgt := 1563) dL_law_40 (by decide) (by decide) rfl (by decide) ?_)
        refine rw_aload_n dL_law_1563 1 rfl rfl ?_
        refine rw_aload_n dL_law_1564 0 rfl rfl ?_
        refine rw_iload dL_law_1565 4 rfl ?_
        refine rw_iconst (v := 1) dL_law_1567 (by decide) ?_
        refine rw_iadd dL_law_1568 ?_
        obtain ⟨hi330, hf⟩ := grd hf
        refine rw_sc hg dL_law_1569 (inB_in hi330) ?_
        obtain ⟨q331, hq331, hf⟩ := bnd hf
        refine kV_I (ad := ad) (As := [.int (g.2.2 (v4 + 1).toNatClampNeg)]) (st := []) dL_law_1570 calX11_unit wm690 wm691 wm692 rfl rfl (rc_0 hr) (ci := 11) (by decide) rfl rfl (Nat.le_of_ble_eq_true rfl) ⟨⟨by decide, by decide⟩, by show cc + 0 ≤ 601024; omega, by show cs + 0 ≤ 7293034; omega⟩ (cmX11_unit hr hq331) (fun h hr => ?_)
        refine rw_aload_n dL_law_1573 2 rfl rfl ?_
        refine rw_aload_n dL_law_1574 0 rfl rfl ?_
        refine rw_iload dL_law_1575 4 rfl ?_
        refine rw_iconst (v := 1) dL_law_1577 (by decide) ?_
        refine rw_iadd dL_law_1578 ?_
        obtain ⟨hi332, hf⟩ := grd hf
        refine rw_sc hg dL_law_1579 (inB_in hi332) ?_
        obtain ⟨q333, hq333, hf⟩ := bnd hf
        refine kV_I (ad := ad) (As := [.int (g.2.2 (v4 + 1).toNatClampNeg)]) (st := [.int q331.1]) dL_law_1580 calX12_unit wm1815 wm1816 wm1817 rfl rfl (rc_43 hr) (ci := 12) (by decide) rfl rfl (Nat.le_of_ble_eq_true rfl) ⟨⟨by decide, by decide⟩, by show cc + 0 ≤ 601024; omega, by show cs + 0 ≤ 7293034; omega⟩ (cmX12_unit hr hq333) (fun h hr => ?_)
        refine rw_icmp_eq (tgt := 1682) dL_law_1583 (by decide) (fun c334 => ?_) (fun c334 => ?_)
        · rw [if_pos c334] at hf
          refine rw_iinc (v := v4 + 6) (lv2 := [(4, .int (v4 + 6)), (0, .ref G.2.2.2.1.1), (1, .ref (ad 0)), (2, .ref (ad 43)), (3, .ref (ad 42))]) dL_law_1682 4 rfl rfl (by decide) rfl ?_
          refine nmL hf (fun x335 hf => ?_)
          refine rw_goto (tgt := 23) dL_law_1685 (by decide) ?_
          refine rw_sub [1, 2, 3, 4, 0] rfl ?_
          exact ih cc cs (bud0 hbc) (bud0 hbs) x335 q333.2 _ hr hf
        · rw [if_neg c334] at hf
          refine rw_iconst (v := 0) dL_law_1586 (by decide) ?_
          replace hf := Option.some.inj hf
          subst hf
          exact rw_zreturn dL_law_1587 rfl (by decide) (hQ _ hr) (by show cc ≤ 601024; omega) (by show cs ≤ 7293034; omega)
      rw [if_neg c329] at hf
      by_cases c336 : ((g.2.2 v4.toNatClampNeg) &&& 31) = 23
      · rw [if_pos c336] at hf
        refine rw_top c336 (rw_tableIn (off := 1548) (tgt := 1588) dL_law_40 (by decide) (by decide) rfl (by decide) ?_)
        refine rw_aload_n dL_law_1588 1 rfl rfl ?_
        obtain ⟨q337, hq337, hf⟩ := bnd hf
        refine kV_I (ad := ad) (As := []) (st := []) dL_law_1589 calX11_read wm699 wm700 wm701 rfl rfl (rc_0 hr) (ci := 11) (by decide) rfl rfl (Nat.le_of_ble_eq_true rfl) ⟨⟨by decide, by decide⟩, by show cc + 0 ≤ 601024; omega, by show cs + 0 ≤ 7293034; omega⟩ (cmX11_read hr hq337) (fun h hr => ?_)
        refine rw_aload_n dL_law_1592 2 rfl rfl ?_
        obtain ⟨q338, hq338, hf⟩ := bnd hf
        refine kV_I (ad := ad) (As := []) (st := [.int q337.1]) dL_law_1593 calX12_read wm1819 wm1820 wm1821 rfl rfl (rc_43 hr) (ci := 12) (by decide) rfl rfl (Nat.le_of_ble_eq_true rfl) ⟨⟨by decide, by decide⟩, by show cc + 0 ≤ 601024; omega, by show cs + 0 ≤ 7293034; omega⟩ (cmX12_read hr hq338) (fun h hr => ?_)
        refine rw_icmp_eq (tgt := 1682) dL_law_1596 (by decide) (fun c339 => ?_) (fun c339 => ?_)
        · rw [if_pos c339] at hf
          refine rw_iinc (v := v4 + 6) (lv2 := [(4, .int (v4 + 6)), (0, .ref G.2.2.2.1.1), (1, .ref (ad 0)), (2, .ref (ad 43)), (3, .ref (ad 42))]) dL_law_1682 4 rfl rfl (by decide) rfl ?_
          refine nmL hf (fun x340 hf => ?_)
          refine rw_goto (tgt := 23) dL_law_1685 (by decide) ?_
          refine rw_sub [1, 2, 3, 4, 0] rfl ?_
          exact ih cc cs (bud0 hbc) (bud0 hbs) x340 q338.2 _ hr hf
        · rw [if_neg c339] at hf
          refine rw_iconst (v := 0) dL_law_1599 (by decide) ?_
          replace hf := Option.some.inj hf
          subst hf
          exact rw_zreturn dL_law_1600 rfl (by decide) (hQ _ hr) (by show cc ≤ 601024; omega) (by show cs ≤ 7293034; omega)
      rw [if_neg c336] at hf
      by_cases c341 : ((g.2.2 v4.toNatClampNeg) &&& 31) = 24
      · rw [if_pos c341] at hf
        refine rw_top c341 (rw_tableIn (off := 1561) (tgt := 1601) dL_law_40 (by decide) (by decide) rfl (by decide) ?_)
        refine rw_aload_n dL_law_1601 1 rfl rfl ?_
        refine rw_aload_n dL_law_1602 0 rfl rfl ?_
        refine rw_iload dL_law_1603 4 rfl ?_
        refine rw_iconst (v := 1) dL_law_1605 (by decide) ?_
        refine rw_iadd dL_law_1606 ?_
        obtain ⟨hi342, hf⟩ := grd hf
        refine rw_sc hg dL_law_1607 (inB_in hi342) ?_
        refine rw_aload_n dL_law_1608 3 rfl rfl ?_
        obtain ⟨q343, hq343, hf⟩ := bnd hf
        refine kW_I (ad := ad) (As := [.ref (ad 0), .int (g.2.2 (v4 + 1).toNatClampNeg), .ref (ad 42)]) (st := []) dL_law_1609 calL_write wm1163 wm1164 rfl rfl (Nat.le_of_ble_eq_true rfl) ⟨⟨by decide, by decide⟩, by show cc + 63 ≤ 601024; omega, by show cs + 8810 ≤ 7293034; omega⟩ (cmL_write hr hq343) (fun h hr => ?_)
        refine nmI hf (fun x344 hf => ?_)
        refine rw_istore (lv2 := [(5, .int x344), (0, .ref G.2.2.2.1.1), (1, .ref (ad 0)), (2, .ref (ad 43)), (3, .ref (ad 42)), (4, .int v4)]) dL_law_1612 (by decide) rfl ?_
        refine rw_aload_n dL_law_1614 3 rfl rfl ?_
        refine rw_aload_n dL_law_1615 1 rfl rfl ?_
        refine rw_iload dL_law_1616 5 rfl ?_
        refine rw_iconst (v := 1) dL_law_1618 (by decide) ?_
        refine rw_iadd dL_law_1619 ?_
        obtain ⟨hi345, hf⟩ := grd hf
        refine rw_sc hg dL_law_1620 (inB_in hi345) ?_
        obtain ⟨q346, hq346, hf⟩ := bnd hf
        refine kV_I (ad := ad) (As := [.int (g.2.2 (v4 + 1).toNatClampNeg)]) (st := []) dL_law_1621 calX12_write wm1843 wm1844 wm1845 rfl rfl (rc_43 hr) (ci := 12) (by decide) rfl rfl (Nat.le_of_ble_eq_true rfl) ⟨⟨by decide, by decide⟩, by show (cc + 63) + 0 ≤ 601024; omega, by show (cs + 8810) + 0 ≤ 7293034; omega⟩ (cmX12_write hr hq346) (fun h hr => ?_)
        refine nmI hf (fun x347 hf => ?_)
        refine rw_istore (lv2 := [(6, .int x347), (5, .int x344), (0, .ref G.2.2.2.1.1), (1, .ref (ad 0)), (2, .ref (ad 43)), (3, .ref (ad 42)), (4, .int v4)]) dL_law_1624 (by decide) rfl ?_
        refine rw_aload_n dL_law_1626 4 rfl rfl ?_
        obtain ⟨q348, hq348, hf⟩ := bnd hf
        refine kV_I (ad := ad) (As := []) (st := []) dL_law_1627 calX12_thrown wm1601 wm1602 wm1603 rfl rfl (rc_43 hr) (ci := 12) (by decide) rfl rfl (Nat.le_of_ble_eq_true rfl) ⟨⟨by decide, by decide⟩, by show (cc + 63) + 0 ≤ 601024; omega, by show (cs + 8810) + 0 ≤ 7293034; omega⟩ (cmX12_thrown hr hq348) (fun h hr => ?_)
        refine rw_iload dL_law_1630 1 rfl ?_
        refine rw_icmp_eq (tgt := 1637) dL_law_1632 (by decide) (fun c349 => ?_) (fun c349 => ?_)
        · rw [if_pos c349] at hf
          refine rw_iload dL_law_1637 1 rfl ?_
          refine rw_if_ne (tgt := 1654) dL_law_1639 (by decide) (fun c350 => ?_) (fun c350 => ?_)
          · rw [if_neg c350] at hf
            refine rw_goto (tgt := 1682) dL_law_1654 (by decide) ?_
            refine rw_iinc (v := v4 + 6) (lv2 := [(4, .int (v4 + 6)), (6, .int x347), (5, .int x344), (0, .ref G.2.2.2.1.1), (1, .ref (ad 0)), (2, .ref (ad 43)), (3, .ref (ad 42))]) dL_law_1682 6 rfl rfl (by decide) rfl ?_
            refine nmL hf (fun x351 hf => ?_)
            refine rw_goto (tgt := 23) dL_law_1685 (by decide) ?_
            refine rw_sub [3, 4, 5, 6, 0] rfl ?_
            exact ih (cc + 63) (cs + 8810) (bud (c := 63) hbc (by decide)) (bud (c := 8810) hbs (by decide)) x351 q348.2 _ hr hf
          · rw [if_pos c350] at hf
            refine rw_aload_n dL_law_1642 5 rfl rfl ?_
            refine rw_iconst (v := 0) dL_law_1643 (by decide) ?_
            obtain ⟨hi352, hf⟩ := grd hf
            refine sl_42 hr dL_law_1644 (inB_in hi352) ?_
            refine rw_iload dL_law_1645 0 rfl ?_
            refine rw_i2l dL_law_1647 ?_
            refine rw_lcmp dL_law_1648 ?_
            refine rw_if_eq (tgt := 1654) dL_law_1649 (by decide) (fun c353 => ?_) (fun c353 => ?_)
            · rw [if_pos c353] at hf
              refine rw_goto (tgt := 1682) dL_law_1654 (by decide) ?_
              refine rw_iinc (v := v4 + 6) (lv2 := [(4, .int (v4 + 6)), (6, .int x347), (5, .int x344), (0, .ref G.2.2.2.1.1), (1, .ref (ad 0)), (2, .ref (ad 43)), (3, .ref (ad 42))]) dL_law_1682 6 rfl rfl (by decide) rfl ?_
              refine nmL hf (fun x354 hf => ?_)
              refine rw_goto (tgt := 23) dL_law_1685 (by decide) ?_
              refine rw_sub [3, 4, 5, 6, 0] rfl ?_
              exact ih (cc + 63) (cs + 8810) (bud (c := 63) hbc (by decide)) (bud (c := 8810) hbs (by decide)) x354 q348.2 _ hr hf
            · rw [if_neg c353] at hf
              refine rw_iconst (v := 0) dL_law_1652 (by decide) ?_
              replace hf := Option.some.inj hf
              subst hf
              exact rw_zreturn dL_law_1653 rfl (by decide) (hQ _ hr) (by show (cc + 63) ≤ 601024; omega) (by show (cs + 8810) ≤ 7293034; omega)
        · rw [if_neg c349] at hf
          refine rw_iconst (v := 0) dL_law_1635 (by decide) ?_
          replace hf := Option.some.inj hf
          subst hf
          exact rw_zreturn dL_law_1636 rfl (by decide) (hQ _ hr) (by show (cc + 63) ≤ 601024; omega) (by show (cs + 8810) ≤ 7293034; omega)
      rw [if_neg c341] at hf
      by_cases c355 : ((g.2.2 v4.toNatClampNeg) &&& 31) = 25
      · rw [if_pos c355] at hf
        refine rw_top c355 (rw_tableIn (off := 1617) (tgt := 1657) dL_law_40 (by decide) (by decide) rfl (by decide) ?_)
        refine rw_aload_n dL_law_1657 1 rfl rfl ?_
        refine rw_aload_n dL_law_1658 0 rfl rfl ?_
        refine rw_iload dL_law_1659 4 rfl ?_
        refine rw_iconst (v := 1) dL_law_1661 (by decide) ?_
        refine rw_iadd dL_law_1662 ?_
        obtain ⟨hi356, hf⟩ := grd hf
        refine rw_sc hg dL_law_1663 (inB_in hi356) ?_
        obtain ⟨q357, hq357, hf⟩ := bnd hf
        refine kV_I (ad := ad) (As := [.int (g.2.2 (v4 + 1).toNatClampNeg)]) (st := []) dL_law_1664 calX11_letter wm774 wm775 wm776 rfl rfl (rc_0 hr) (ci := 11) (by decide) rfl rfl (Nat.le_of_ble_eq_true rfl) ⟨⟨by decide, by decide⟩, by show cc + 0 ≤ 601024; omega, by show cs + 0 ≤ 7293034; omega⟩ (cmX11_letter hr hq357) (fun h hr => ?_)
        refine rw_aload_n dL_law_1667 2 rfl rfl ?_
        refine rw_aload_n dL_law_1668 0 rfl rfl ?_
        refine rw_iload dL_law_1669 4 rfl ?_
        refine rw_iconst (v := 1) dL_law_1671 (by decide) ?_
        refine rw_iadd dL_law_1672 ?_
        obtain ⟨hi358, hf⟩ := grd hf
        refine rw_sc hg dL_law_1673 (inB_in hi358) ?_
        obtain ⟨q359, hq359, hf⟩ := bnd hf
        refine kV_I (ad := ad) (As := [.int (g.2.2 (v4 + 1).toNatClampNeg)]) (st := [.int q357.1]) dL_law_1674 calX12_letter wm1855 wm1856 wm1857 rfl rfl (rc_43 hr) (ci := 12) (by decide) rfl rfl (Nat.le_of_ble_eq_true rfl) ⟨⟨by decide, by decide⟩, by show cc + 0 ≤ 601024; omega, by show cs + 0 ≤ 7293034; omega⟩ (cmX12_letter hr hq359) (fun h hr => ?_)
        refine rw_icmp_eq (tgt := 1682) dL_law_1677 (by decide) (fun c360 => ?_) (fun c360 => ?_)
        · rw [if_pos c360] at hf
          refine rw_iinc (v := v4 + 6) (lv2 := [(4, .int (v4 + 6)), (0, .ref G.2.2.2.1.1), (1, .ref (ad 0)), (2, .ref (ad 43)), (3, .ref (ad 42))]) dL_law_1682 4 rfl rfl (by decide) rfl ?_
          refine nmL hf (fun x361 hf => ?_)
          refine rw_goto (tgt := 23) dL_law_1685 (by decide) ?_
          refine rw_sub [1, 2, 3, 4, 0] rfl ?_
          exact ih cc cs (bud0 hbc) (bud0 hbs) x361 q359.2 _ hr hf
        · rw [if_neg c360] at hf
          refine rw_iconst (v := 0) dL_law_1680 (by decide) ?_
          replace hf := Option.some.inj hf
          subst hf
          exact rw_zreturn dL_law_1681 rfl (by decide) (hQ _ hr) (by show cc ≤ 601024; omega) (by show cs ≤ 7293034; omega)
      rw [if_neg c355] at hf
      refine rw_tableOut (tgt := 1682) dL_law_40 (tb_out26_0 c3 c21 c39 c48 c61 c68 c79 c86 c91 c105 c121 c137 c155 c171 c191 c206 c222 c238 c258 c278 c300 c320 c329 c336 c341 c355) (by decide) ?_
      refine rw_iinc (v := v4 + 6) (lv2 := [(4, .int (v4 + 6)), (0, .ref G.2.2.2.1.1), (1, .ref (ad 0)), (2, .ref (ad 43)), (3, .ref (ad 42))]) dL_law_1682 4 rfl rfl (by decide) rfl ?_
      refine nmL hf (fun x362 hf => ?_)
      refine rw_goto (tgt := 23) dL_law_1685 (by decide) ?_
      refine rw_sub [1, 2, 3, 4, 0] rfl ?_
      exact ih cc cs (bud0 hbc) (bud0 hbs) x362 σ _ hr hf
