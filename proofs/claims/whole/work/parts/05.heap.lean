/-! rows of EV: fields, arrays, wide numbers, returns (printed by wip/gen/heap.py; the wb_ rows are the kit's own, pasted) -/
theorem wb_tb (n : Nat) : (lN n).toBitVec = BitVec.ofNat 64 n := rfl
theorem wb_inj {a b : Int64} (h : a.toBitVec = b.toBitVec) : a = b := Int64.toBitVec_inj.mp h
theorem wb_tn {n : Nat} (h : n < 2 ^ 64) : (lN n).toBitVec.toNat = n := by rw [wb_tb, BitVec.toNat_ofNat, Nat.mod_eq_of_lt h]
theorem wb_of (x : Int64) : ∃ n, n < 2 ^ 64 ∧ x = lN n := ⟨x.toBitVec.toNat, x.toBitVec.isLt, wb_inj (by rw [wb_tb]; simp)⟩
theorem wb_of32 (x : Int32) : ∃ n, n < 2 ^ 32 ∧ x = nI n := ⟨x.toBitVec.toNat, x.toBitVec.isLt, Int32.toBitVec_inj.mp (by show _ = BitVec.ofNat 32 _; simp)⟩
theorem wb_c : ∀ k, k < 64 → ((nI k).toInt64 &&& 63) = lN k := by decide +kernel
theorem wb_cu : ∀ k, k < 64 → ((nI k).toInt64.toUInt64 &&& Int64.toUInt64 63) = UInt64.ofNat k := by decide +kernel
theorem wb_sm : ∀ k, k < 64 → (BitVec.ofNat 64 k).smod 64 = BitVec.ofNat 64 k := by decide +kernel
theorem wb_pw {a b : Nat} (h : a ≤ b) : 2 ^ b = 2 ^ a * 2 ^ (b - a) := by rw [← Nat.pow_add]; congr 1; omega
theorem wb_lt2 {a b : Nat} (h : a < b) : 2 ^ a < 2 ^ b := Nat.pow_lt_pow_right (by decide) h
theorem wb_mod (n : Nat) : lN n = lN (n % 2 ^ 64) := wb_inj (by rw [wb_tb, wb_tb]; apply BitVec.eq_of_toNat_eq; rw [BitVec.toNat_ofNat, BitVec.toNat_ofNat, Nat.mod_mod])
theorem wb_shr {n k : Nat} (hn : n < 2 ^ 64) (hk : k < 64) : ((lN n).toUInt64 >>> ((nI k).toInt64.toUInt64 &&& Int64.toUInt64 63)).toInt64 = lN (n / 2 ^ k) := by
  rw [wb_cu k hk]
  apply wb_inj
  apply BitVec.eq_of_toNat_eq
  show ((lN n).toUInt64 >>> UInt64.ofNat k).toNat = (BitVec.ofNat 64 _).toNat
  have h1 : (UInt64.ofNat k).toNat = k := by
    show (BitVec.ofNat 64 k).toNat = k
    rw [BitVec.toNat_ofNat, Nat.mod_eq_of_lt (by omega)]
  have h2 : (lN n).toUInt64.toNat = n := wb_tn hn
  rw [UInt64.toNat_shiftRight, h1, h2, Nat.mod_eq_of_lt hk, Nat.shiftRight_eq_div_pow, BitVec.toNat_ofNat, Nat.mod_eq_of_lt (Nat.lt_of_le_of_lt (Nat.div_le_self _ _) hn)]
theorem wb_shl (n : Nat) {k : Nat} (hk : k < 64) : lN n <<< ((nI k).toInt64 &&& 63) = lN (n * 2 ^ k) := by
  rw [wb_c k hk]
  apply wb_inj
  rw [Int64.toBitVec_shiftLeft, wb_tb, wb_tb, wb_tb, wb_sm k hk]
  apply BitVec.eq_of_toNat_eq
  rw [BitVec.shiftLeft_eq', BitVec.toNat_shiftLeft, BitVec.toNat_ofNat, BitVec.toNat_ofNat, BitVec.toNat_ofNat, Nat.mod_eq_of_lt (show k < 2 ^ 64 by omega), Nat.shiftLeft_eq, Nat.mul_mod, Nat.mod_mod, ← Nat.mul_mod]
theorem wb_and {a b : Nat} (ha : a < 2 ^ 64) (hb : b < 2 ^ 64) : lN a &&& lN b = lN (a &&& b) := by
  apply wb_inj
  rw [Int64.toBitVec_and, wb_tb, wb_tb, wb_tb]
  apply BitVec.eq_of_toNat_eq
  rw [BitVec.toNat_and, BitVec.toNat_ofNat, BitVec.toNat_ofNat, BitVec.toNat_ofNat, Nat.mod_eq_of_lt ha, Nat.mod_eq_of_lt hb, Nat.mod_eq_of_lt (Nat.and_lt_two_pow _ hb)]
theorem wb_or {a b : Nat} (ha : a < 2 ^ 64) (hb : b < 2 ^ 64) : lN a ||| lN b = lN (a ||| b) := by
  apply wb_inj
  rw [Int64.toBitVec_or, wb_tb, wb_tb, wb_tb]
  apply BitVec.eq_of_toNat_eq
  rw [BitVec.toNat_or, BitVec.toNat_ofNat, BitVec.toNat_ofNat, BitVec.toNat_ofNat, Nat.mod_eq_of_lt ha, Nat.mod_eq_of_lt hb, Nat.mod_eq_of_lt (Nat.or_lt_two_pow ha hb)]
def updI (f : Int → Int) (i v : Int) : Int → Int := fun j => if j = i then v else f j
def updN (f : Int → Nat) (i : Int) (v : Nat) : Int → Nat := fun j => if j = i then v else f j
/-- arithmetic shift of a long, by its bits -/
def sar (n k : Nat) : Nat := ((BitVec.ofNat 64 n).sshiftRight k).toNat
theorem lnN (n : Nat) : Int64.ofNat n = lN n := rfl
theorem nn {x : Int} (h : 0 ≤ x) : ∃ n : Nat, x = (n : Int) := ⟨x.toNat, by omega⟩
theorem oi_div {x y : Int} (hx : R32 x) (hy : R32 y) (h0 : 0 ≤ x) (h1 : 0 < y) : Int32.ofInt x / Int32.ofInt y = Int32.ofInt (x / y) := by
  obtain ⟨a, rfl⟩ := nn h0
  obtain ⟨c, rfl⟩ := nn (Int.le_of_lt h1)
  have e : ((a : Int) / (c : Int)) = ((a / c : Nat) : Int) := by simp
  rw [e, oi_nat, oi_nat, oi_nat]
  exact pk_div (by have := hx.2; omega) (by omega) (by have := hy.2; omega)
theorem oi_rem {x y : Int} (hx : R32 x) (hy : R32 y) (h0 : 0 ≤ x) (h1 : 0 < y) : Int32.ofInt x - Int32.ofInt x / Int32.ofInt y * Int32.ofInt y = Int32.ofInt (x % y) := by
  obtain ⟨a, rfl⟩ := nn h0
  obtain ⟨c, rfl⟩ := nn (Int.le_of_lt h1)
  have e : ((a : Int) % (c : Int)) = ((a % c : Nat) : Int) := by simp
  rw [e, oi_nat, oi_nat, oi_nat]
  exact pk_rem (by have := hx.2; omega) (by omega) (by have := hy.2; omega)
theorem oi_ne0 {y : Int} (hy : R32 y) (h1 : 0 < y) : ¬ Int32.ofInt y = 0 := by
  rw [← oi_0, oi_eq hy R32_0]; omega
theorem sh_l : ∀ n, n < 32 → ((nI n &&& 31).toBitVec.smod 32).toNat = n := by decide +kernel
theorem oi_shl {x s : Int} (h0 : 0 ≤ x) (hs : 0 ≤ s ∧ s < 32) (h : x * 2 ^ s.toNat < 4294967296) : Int32.ofInt x <<< (Int32.ofInt s &&& 31) = Int32.ofInt (x * 2 ^ s.toNat) := by
  obtain ⟨a, rfl⟩ := nn h0
  obtain ⟨c, rfl⟩ := nn hs.1
  have e : ((a : Int) * 2 ^ (c : Int).toNat) = ((a * 2 ^ c : Nat) : Int) := by simp
  rw [e] at h ⊢
  rw [oi_nat, oi_nat, oi_nat]
  exact pk_shlN _ c (sh_l c (by omega)) (by omega)
theorem oi_shr {x s : Int} (hx : R32 x) (h0 : 0 ≤ x) (hs : 0 ≤ s ∧ s < 32) : Int32.ofInt x >>> (Int32.ofInt s &&& 31) = Int32.ofInt (x / 2 ^ s.toNat) := by
  obtain ⟨a, rfl⟩ := nn h0
  obtain ⟨c, rfl⟩ := nn hs.1
  have e : ((a : Int) / 2 ^ (c : Int).toNat) = ((a / 2 ^ c : Nat) : Int) := by simp
  rw [e, oi_nat, oi_nat, oi_nat]
  exact pk_shrN (by have := hx.2; omega) _ c (sh_l c (by omega))
theorem oi_and {x y : Int} (h0 : 0 ≤ x) (h1 : 0 ≤ y) : Int32.ofInt x &&& Int32.ofInt y = Int32.ofInt ((x.toNat &&& y.toNat : Nat) : Int) := by
  obtain ⟨a, rfl⟩ := nn h0
  obtain ⟨c, rfl⟩ := nn h1
  rw [oi_nat, oi_nat, oi_nat]
  apply Int32.toBitVec_inj.mp
  apply BitVec.eq_of_toNat_eq
  simp [nI, Nat.and_mod_two_pow]
theorem oi_or {x y : Int} (h0 : 0 ≤ x) (h1 : 0 ≤ y) : Int32.ofInt x ||| Int32.ofInt y = Int32.ofInt ((x.toNat ||| y.toNat : Nat) : Int) := by
  obtain ⟨a, rfl⟩ := nn h0
  obtain ⟨c, rfl⟩ := nn h1
  rw [oi_nat, oi_nat, oi_nat]
  apply Int32.toBitVec_inj.mp
  apply BitVec.eq_of_toNat_eq
  simp [nI, Nat.or_mod_two_pow]
theorem R32_and {x y : Int} (hx : R32 x) (h0 : 0 ≤ x) : R32 ((x.toNat &&& y.toNat : Nat) : Int) := by
  have h := Nat.and_le_left (n := x.toNat) (m := y.toNat)
  have := hx.2
  constructor <;> omega
theorem R32_or {x y : Int} (hx : R32 x) (hy : R32 y) (h0 : 0 ≤ x) (h1 : 0 ≤ y) : R32 ((x.toNat ||| y.toNat : Nat) : Int) := by
  have h := Nat.or_lt_two_pow (n := 31) (x := x.toNat) (y := y.toNat) (by have := hx.2; omega) (by have := hy.2; omega)
  constructor <;> omega
theorem R32_div {x y : Int} (hx : R32 x) (h0 : 0 ≤ x) (h1 : 0 < y) : R32 (x / y) := by
  have h2 : x / y ≤ x := Int.ediv_le_self y h0
  have h3 : 0 ≤ x / y := Int.ediv_nonneg h0 (Int.le_of_lt h1)
  have := hx.2
  constructor <;> omega
theorem R32_mod {x y : Int} (hy : R32 y) (h1 : 0 < y) : R32 (x % y) := by
  have h2 := Int.emod_nonneg x (show y ≠ 0 by omega)
  have h3 := Int.emod_lt_of_pos x h1
  have := hy.2
  constructor <;> omega
theorem oi_i2l {x : Int} (hx : R32 x) (h0 : 0 ≤ x) : (Int32.ofInt x).toInt64 = Int64.ofNat x.toNat := by
  obtain ⟨a, rfl⟩ := nn h0
  rw [oi_nat, nI_l (by have := hx.2; omega)]; rfl
theorem oi_l2i {n : Nat} (h : n < 2147483648) : (Int64.ofNat n).toInt32 = Int32.ofInt (n : Int) := by
  rw [oi_nat, lnN, lN_i]
theorem oi_i2c {x : Int} (h : 0 ≤ x ∧ x < 65536) : ((Int32.ofInt x).toUInt32 % 65536).toInt32 = Int32.ofInt x := by
  obtain ⟨a, rfl⟩ := nn h.1
  rw [oi_nat, pk_char, pk_tn (by omega), Nat.mod_eq_of_lt (by omega)]
theorem oi_nar {x : Int} (h : 0 ≤ x ∧ x < 65536) : vp_nar .char (Int32.ofInt x) = Int32.ofInt x := by
  obtain ⟨a, rfl⟩ := nn h.1
  rw [oi_nat]
  have := (pk_charN (q := a) (by omega)).1
  simp only [vp_nar, this]
theorem oi_lushr {n : Nat} {s : Int} (hn : n < 18446744073709551616) (hs : 0 ≤ s ∧ s < 64) : ((Int64.ofNat n).toUInt64 >>> ((Int32.ofInt s).toInt64.toUInt64 &&& Int64.toUInt64 63)).toInt64 = Int64.ofNat (n / 2 ^ s.toNat) := by
  obtain ⟨c, rfl⟩ := nn hs.1
  rw [oi_nat, lnN, lnN]
  exact wb_shr hn (by omega)
theorem oi_lshl {n : Nat} {s : Int} (hs : 0 ≤ s ∧ s < 64) : (Int64.ofNat n) <<< ((Int32.ofInt s).toInt64 &&& 63) = Int64.ofNat (n * 2 ^ s.toNat) := by
  obtain ⟨c, rfl⟩ := nn hs.1
  rw [oi_nat, lnN, lnN]
  exact wb_shl n (by omega)
theorem oi_lshr {n : Nat} {s : Int} (hs : 0 ≤ s ∧ s < 64) : (Int64.ofNat n) >>> ((Int32.ofInt s).toInt64 &&& 63) = Int64.ofNat (sar n s.toNat) := by
  obtain ⟨c, rfl⟩ := nn hs.1
  rw [oi_nat, wb_c c (by omega)]
  apply Int64.toBitVec_inj.mp
  apply BitVec.eq_of_toNat_eq
  rw [Int64.toBitVec_shiftRight, lnN, wb_tb, wb_tb, wb_sm c (by omega)]
  simp [sar, lN]
  rw [Nat.mod_eq_of_lt (a := c) (by omega)]
theorem sar_lt (n k : Nat) : sar n k < 18446744073709551616 := BitVec.isLt _
theorem arr_upd {f : Int → Int} {i v : Int} (h0 : 0 ≤ i) : upd (fun j : Nat => Int32.ofInt (f (j : Int))) i.toNat (Int32.ofInt v) = fun j : Nat => Int32.ofInt (updI f i v (j : Int)) := by
  funext j
  by_cases hj : j = i.toNat
  · subst hj
    rw [pk_us, Int.toNat_of_nonneg h0]
    simp [updI]
  · rw [pk_un hj, updI, if_neg (by omega)]
theorem arr_updN {f : Int → Nat} {i : Int} {v : Nat} (h0 : 0 ≤ i) : vp_updL (fun j : Nat => Int64.ofNat (f (j : Int))) i.toNat (Int64.ofNat v) = fun j : Nat => Int64.ofNat (updN f i v (j : Int)) := by
  funext j
  by_cases hj : j = i.toNat
  · subst hj
    rw [pk_uLs, Int.toNat_of_nonneg h0]
    simp [updN]
  · rw [pk_uLn hj, updN, if_neg (by omega)]
theorem okI_upd {f : Int → Int} {i v : Int} (h : ∀ j, R32 (f j)) (hv : R32 v) : ∀ j, R32 (updI f i v j) := fun j => by
  unfold updI
  split
  · exact hv
  · exact h j
theorem okN_upd {f : Int → Nat} {i : Int} {v : Nat} (h : ∀ j, f j < 18446744073709551616) (hv : v < 18446744073709551616) : ∀ j, updN f i v j < 18446744073709551616 := fun j => by
  unfold updN
  split
  · exact hv
  · exact h j
theorem mem_set {fs : List AV} {j : Nat} {v : AV} (h : ∀ x ∈ fs, okv x) (hv : okv v) : ∀ x ∈ fs.set j v, okv x := fun x hx => by
  rcases List.mem_or_eq_of_mem_set hx with h1 | rfl
  · exact h x h1
  · exact hv
theorem nf_int (ad : Nat → Nat) (x : Int) : narrow .int (cv ad (vI x)) = cv ad (vI x) ∧ fits .int (cv ad (vI x)) = true := ⟨rfl, rfl⟩
theorem nf_long (ad : Nat → Nat) (n : Nat) : narrow .long (cv ad (vL n)) = cv ad (vL n) ∧ fits .long (cv ad (vL n)) = true := ⟨rfl, rfl⟩
theorem nf_bool (ad : Nat → Nat) {x : Int} (h : x = 0 ∨ x = 1) : narrow .boolean (cv ad (vI x)) = cv ad (vI x) ∧ fits .boolean (cv ad (vI x)) = true := by
  rcases h with rfl | rfl
  · exact ⟨(by decide +kernel : narrow .boolean (.int (Int32.ofInt 0)) = .int (Int32.ofInt 0)), (by decide +kernel : fits .boolean (.int (Int32.ofInt 0)) = true)⟩
  · exact ⟨(by decide +kernel : narrow .boolean (.int (Int32.ofInt 1)) = .int (Int32.ofInt 1)), (by decide +kernel : fits .boolean (.int (Int32.ofInt 1)) = true)⟩
section EVH
variable {l : Launch} {b : ByteArray} {own : String} {nL : Nat} {ret : Option FieldType} {d pc : Nat} {lv : List (Nat × AV)} {st : List AV} {w : List AC} {K : Option AV → List AC → Prop}
theorem EV_idiv {x y : Int} (hd : decode b pc = .ok (.idiv, 1)) (h0 : 0 ≤ x) (h1 : 0 < y) (k : EV l b own nL ret d (pc + 1) lv (vI (x / y) :: st) w K) : EV l b own nL ret d pc lv (vI y :: vI x :: st) w K := by
  intro p e R s m args below meth c H locs dC dI ad cA A C D ol os ls hl
  have hx : R32 x := oks_h (oks_t os)
  have hy : R32 y := oks_h os
  refine lv_idiv C.1 C.2.1 hd (oi_ne0 hy h1) ?_
  rw [oi_div hx hy h0 h1]
  exact k p e R s m args below meth c H locs dC dI ad cA A C D ol (oks_c (R32_div hx h0 h1) (oks_t (oks_t os))) ls hl
theorem EV_irem {x y : Int} (hd : decode b pc = .ok (.irem, 1)) (h0 : 0 ≤ x) (h1 : 0 < y) (k : EV l b own nL ret d (pc + 1) lv (vI (x % y) :: st) w K) : EV l b own nL ret d pc lv (vI y :: vI x :: st) w K := by
  intro p e R s m args below meth c H locs dC dI ad cA A C D ol os ls hl
  have hx : R32 x := oks_h (oks_t os)
  have hy : R32 y := oks_h os
  refine lv_irem C.1 C.2.1 hd (oi_ne0 hy h1) ?_
  rw [oi_rem hx hy h0 h1]
  exact k p e R s m args below meth c H locs dC dI ad cA A C D ol (oks_c (R32_mod hy h1) (oks_t (oks_t os))) ls hl
theorem EV_ishl {x y : Int} (hd : decode b pc = .ok (.ishl, 1)) (h0 : 0 ≤ x) (h1 : 0 ≤ y ∧ y < 32) (hr : R32 (x * 2 ^ y.toNat)) (k : EV l b own nL ret d (pc + 1) lv (vI (x * 2 ^ y.toNat) :: st) w K) : EV l b own nL ret d pc lv (vI y :: vI x :: st) w K := by
  intro p e R s m args below meth c H locs dC dI ad cA A C D ol os ls hl
  refine lv_ishl C.1 C.2.1 hd ?_
  rw [oi_shl h0 h1 (by have := hr.2; omega)]
  exact k p e R s m args below meth c H locs dC dI ad cA A C D ol (oks_c hr (oks_t (oks_t os))) ls hl
theorem EV_ishr {x y : Int} (hd : decode b pc = .ok (.ishr, 1)) (h0 : 0 ≤ x) (h1 : 0 ≤ y ∧ y < 32) (k : EV l b own nL ret d (pc + 1) lv (vI (x / 2 ^ y.toNat) :: st) w K) : EV l b own nL ret d pc lv (vI y :: vI x :: st) w K := by
  intro p e R s m args below meth c H locs dC dI ad cA A C D ol os ls hl
  have hx : R32 x := oks_h (oks_t os)
  refine lv_ishr C.1 C.2.1 hd ?_
  rw [oi_shr hx h0 h1]
  exact k p e R s m args below meth c H locs dC dI ad cA A C D ol (oks_c (R32_div hx h0 (Int.pow_pos (by decide))) (oks_t (oks_t os))) ls hl
theorem EV_iand {x y : Int} (hd : decode b pc = .ok (.iand, 1)) (h0 : 0 ≤ x) (h1 : 0 ≤ y) (k : EV l b own nL ret d (pc + 1) lv (vI ((x.toNat &&& y.toNat : Nat) : Int) :: st) w K) : EV l b own nL ret d pc lv (vI y :: vI x :: st) w K := by
  intro p e R s m args below meth c H locs dC dI ad cA A C D ol os ls hl
  have hx : R32 x := oks_h (oks_t os)
  have hy : R32 y := oks_h os
  refine lv_iand C.1 C.2.1 hd ?_
  rw [oi_and h0 h1]
  exact k p e R s m args below meth c H locs dC dI ad cA A C D ol (oks_c (R32_and hx h0) (oks_t (oks_t os))) ls hl
theorem EV_ior {x y : Int} (hd : decode b pc = .ok (.ior, 1)) (h0 : 0 ≤ x) (h1 : 0 ≤ y) (k : EV l b own nL ret d (pc + 1) lv (vI ((x.toNat ||| y.toNat : Nat) : Int) :: st) w K) : EV l b own nL ret d pc lv (vI y :: vI x :: st) w K := by
  intro p e R s m args below meth c H locs dC dI ad cA A C D ol os ls hl
  have hx : R32 x := oks_h (oks_t os)
  have hy : R32 y := oks_h os
  refine lv_ior C.1 C.2.1 hd ?_
  rw [oi_or h0 h1]
  exact k p e R s m args below meth c H locs dC dI ad cA A C D ol (oks_c (R32_or hx hy h0 h1) (oks_t (oks_t os))) ls hl
theorem EV_i2l {x : Int} (hd : decode b pc = .ok (.i2l, 1)) (h0 : 0 ≤ x) (k : EV l b own nL ret d (pc + 1) lv (vL x.toNat :: st) w K) : EV l b own nL ret d pc lv (vI x :: st) w K := by
  intro p e R s m args below meth c H locs dC dI ad cA A C D ol os ls hl
  have hx : R32 x := oks_h os
  exact lv_i2l C.1 C.2.1 hd (oi_i2l hx h0) (k p e R s m args below meth c H locs dC dI ad cA A C D ol (oks_c (v := vL x.toNat) (show x.toNat < 18446744073709551616 by have := hx.2; omega) (oks_t os)) ls hl)
theorem EV_l2i {n : Nat} (hd : decode b pc = .ok (.l2i, 1)) (h0 : n < 2147483648) (k : EV l b own nL ret d (pc + 1) lv (vI (n : Int) :: st) w K) : EV l b own nL ret d pc lv (vL n :: st) w K := by
  intro p e R s m args below meth c H locs dC dI ad cA A C D ol os ls hl
  exact lv_l2i C.1 C.2.1 hd (oi_l2i h0) (k p e R s m args below meth c H locs dC dI ad cA A C D ol (oks_c (v := vI (n : Int)) (show R32 (n : Int) from ⟨by omega, by omega⟩) (oks_t os)) ls hl)
theorem EV_i2c {x : Int} (hd : decode b pc = .ok (.i2c, 1)) (h0 : 0 ≤ x ∧ x < 65536) (k : EV l b own nL ret d (pc + 1) lv (vI x :: st) w K) : EV l b own nL ret d pc lv (vI x :: st) w K := by
  intro p e R s m args below meth c H locs dC dI ad cA A C D ol os ls hl
  exact lv_i2c C.1 C.2.1 hd (oi_i2c h0) (k p e R s m args below meth c H locs dC dI ad cA A C D ol os ls hl)
theorem EV_lushr {n : Nat} {y : Int} (hd : decode b pc = .ok (.lushr, 1)) (h1 : 0 ≤ y ∧ y < 64) (k : EV l b own nL ret d (pc + 1) lv (vL (n / 2 ^ y.toNat) :: st) w K) : EV l b own nL ret d pc lv (vI y :: vL n :: st) w K := by
  intro p e R s m args below meth c H locs dC dI ad cA A C D ol os ls hl
  have hn : n < 18446744073709551616 := oks_h (oks_t os)
  exact lv_lushr C.1 C.2.1 hd (oi_lushr hn h1) (k p e R s m args below meth c H locs dC dI ad cA A C D ol (oks_c (v := vL (n / 2 ^ y.toNat)) (Nat.lt_of_le_of_lt (Nat.div_le_self _ _) hn) (oks_t (oks_t os))) ls hl)
theorem EV_lshl {n : Nat} {y : Int} (hd : decode b pc = .ok (.lshl, 1)) (h1 : 0 ≤ y ∧ y < 64) (h2 : n * 2 ^ y.toNat < 18446744073709551616) (k : EV l b own nL ret d (pc + 1) lv (vL (n * 2 ^ y.toNat) :: st) w K) : EV l b own nL ret d pc lv (vI y :: vL n :: st) w K := by
  intro p e R s m args below meth c H locs dC dI ad cA A C D ol os ls hl
  exact lv_lshl C.1 C.2.1 hd (oi_lshl h1) (k p e R s m args below meth c H locs dC dI ad cA A C D ol (oks_c (v := vL (n * 2 ^ y.toNat)) h2 (oks_t (oks_t os))) ls hl)
theorem EV_lshr {n : Nat} {y : Int} (hd : decode b pc = .ok (.lshr, 1)) (h1 : 0 ≤ y ∧ y < 64) (k : EV l b own nL ret d (pc + 1) lv (vL (sar n y.toNat) :: st) w K) : EV l b own nL ret d pc lv (vI y :: vL n :: st) w K := by
  intro p e R s m args below meth c H locs dC dI ad cA A C D ol os ls hl
  exact lv_lshr C.1 C.2.1 hd (oi_lshr h1) (k p e R s m args below meth c H locs dC dI ad cA A C D ol (oks_c (v := vL (sar n y.toNat)) (sar_lt _ _) (oks_t (oks_t os))) ls hl)
theorem EV_land {x y : Nat} (hd : decode b pc = .ok (.land, 1)) (k : EV l b own nL ret d (pc + 1) lv (vL (x &&& y) :: st) w K) : EV l b own nL ret d pc lv (vL y :: vL x :: st) w K := by
  intro p e R s m args below meth c H locs dC dI ad cA A C D ol os ls hl
  have hx : x < 18446744073709551616 := oks_h (oks_t os)
  have hy : y < 18446744073709551616 := oks_h os
  refine lv_land C.1 C.2.1 hd ?_
  rw [lnN, lnN, wb_and hx hy]
  exact k p e R s m args below meth c H locs dC dI ad cA A C D ol (oks_c (v := vL (x &&& y)) (Nat.lt_of_le_of_lt Nat.and_le_left hx) (oks_t (oks_t os))) ls hl
theorem EV_lor {x y : Nat} (hd : decode b pc = .ok (.lor, 1)) (k : EV l b own nL ret d (pc + 1) lv (vL (x ||| y) :: st) w K) : EV l b own nL ret d pc lv (vL y :: vL x :: st) w K := by
  intro p e R s m args below meth c H locs dC dI ad cA A C D ol os ls hl
  have hx : x < 18446744073709551616 := oks_h (oks_t os)
  have hy : y < 18446744073709551616 := oks_h os
  refine lv_lor C.1 C.2.1 hd ?_
  rw [lnN, lnN, wb_or hx hy]
  exact k p e R s m args below meth c H locs dC dI ad cA A C D ol (oks_c (v := vL (x ||| y)) (Nat.or_lt_two_pow (n := 64) hx hy) (oks_t (oks_t os))) ls hl
theorem lg_cmp0 {x y : Nat} (hx : x < 18446744073709551616) (hy : y < 18446744073709551616) : lg_cmp (Int64.ofNat x) (Int64.ofNat y) = 0 ↔ x = y := by
  have e : Int64.ofNat x = Int64.ofNat y ↔ x = y := by
    constructor
    · intro h
      have h1 : (lN x).toBitVec.toNat = (lN y).toBitVec.toNat := congrArg (fun z : Int64 => z.toBitVec.toNat) h
      rwa [wb_tn hx, wb_tn hy] at h1
    · intro h; rw [h]
  rw [← e]
  unfold lg_cmp
  simp only [gt_iff_lt, Int64.lt_iff_toInt_lt, ← Int64.toInt_inj]
  repeat' split
  all_goals (constructor <;> intro hh <;> first | omega | decide | exact absurd hh (by decide))
theorem EV_lcmp_eq {x y : Nat} {off : Int} {tgt : Nat} (hd : decode b pc = .ok (.lcmp, 1)) (hd2 : decode b (pc + 1) = .ok (.ifCond .eq off, 3)) (ht : ((pc + 1 : Nat) : Int) + off = (tgt : Int)) (kt : x = y → EV l b own nL ret d tgt lv st w K) (kf : ¬ x = y → EV l b own nL ret d (pc + 1 + 3) lv st w K) : EV l b own nL ret d pc lv (vL y :: vL x :: st) w K := by
  intro p e R s m args below meth c H locs dC dI ad cA A C D ol os ls hl
  have hx : x < 18446744073709551616 := oks_h (oks_t os)
  have hy : y < 18446744073709551616 := oks_h os
  have hz := lg_cmp0 hx hy
  refine W.lcmp C.1 C.2.1 hd ?_
  exact lv_if_eq C.1 C.2.1 hd2 ht (fun q => kt (hz.mp q) p e R s m args below meth c H locs dC dI ad cA A C D ol (oks_t (oks_t os)) ls hl) (fun q => kf (fun z => q (hz.mpr z)) p e R s m args below meth c H locs dC dI ad cA A C D ol (oks_t (oks_t os)) ls hl)
theorem EV_lcmp_ne {x y : Nat} {off : Int} {tgt : Nat} (hd : decode b pc = .ok (.lcmp, 1)) (hd2 : decode b (pc + 1) = .ok (.ifCond .ne off, 3)) (ht : ((pc + 1 : Nat) : Int) + off = (tgt : Int)) (kt : ¬ x = y → EV l b own nL ret d tgt lv st w K) (kf : x = y → EV l b own nL ret d (pc + 1 + 3) lv st w K) : EV l b own nL ret d pc lv (vL y :: vL x :: st) w K := by
  intro p e R s m args below meth c H locs dC dI ad cA A C D ol os ls hl
  have hx : x < 18446744073709551616 := oks_h (oks_t os)
  have hy : y < 18446744073709551616 := oks_h os
  have hz := lg_cmp0 hx hy
  refine W.lcmp C.1 C.2.1 hd ?_
  exact lv_if_ne C.1 C.2.1 hd2 ht (fun q => kt (fun z => q (hz.mpr z)) p e R s m args below meth c H locs dC dI ad cA A C D ol (oks_t (oks_t os)) ls hl) (fun q => kf (hz.mp q) p e R s m args below meth c H locs dC dI ad cA A C D ol (oks_t (oks_t os)) ls hl)
theorem EV_get {k idx ci j N : Nat} {Cn : String} {T : u_T} {fs : List AV} {v : AV} (hd : decode b pc = .ok (.getfield idx, 3)) (hw : w[k]? = some (cO ci fs)) (hc : classes[ci]? = some (Cn, T, N)) (hin : ∀ x ∈ u_ws Cn T N, x ∈ Wt) (hj : j < N) (hlk : Cond.fieldLink own idx (T j).1 (T j).2.1 (T j).2.2.1 ∈ Wt) (hv : fs[j]? = some v) (kk : EV l b own nL ret d (pc + 3) lv (v :: st) w K) : EV l b own nL ret d pc lv (vR k :: st) w K := by
  intro p e R s m args below meth c H locs dC dI ad cA A C D ol os ls hl
  have ok : okv v := (D.2.2 _ (List.mem_of_getElem? hw)) v (List.mem_of_getElem? hv)
  exact va_get (D := (dC, dI)) C.1 C.2.1 C.2.2.2.2.2.2.1 hin C.2.2.2.2.2.1 C.2.2.2.2.2.2.2.2.1 D.1 k (wsm_at hw) hc j hj (C.2.2.2.2.2.2.1 _ hlk) (fun _ h => h) (by rw [List.getElem?_map, hv]; rfl) hd (kk p e R s m args below meth c H locs dC dI ad cA A C D ol (oks_c ok (oks_t os)) ls hl)
theorem Qk_len {dC : Nat → ClassId} {dI : Nat → Nat → Nat} {ad : Nat → Nat} {cA : Nat → ClassId} {A : Nat → Prop} {n n' : Nat} {K : Option AV → List AC → Prop} (h : n' = n) : Qk dC dI ad cA A n' K = Qk dC dI ad cA A n K := by rw [h]
theorem Cx0_len {p : Program} {R : Room} {s : State} {m : MethodId} {args : Array Value} {meth : Method} {c : Code} {b : ByteArray} {own : String} {nL : Nat} {ret : Option FieldType} {d : Nat} {dC : Nat → ClassId} {dI : Nat → Nat → Nat} {ad : Nat → Nat} {cA : Nat → ClassId} {A : Nat → Prop} {n n' : Nat} (h : n' = n) (C : Cx0 p R s m args meth c b own nL ret d dC dI ad cA A n) : Cx0 p R s m args meth c b own nL ret d dC dI ad cA A n' := by rw [h]; exact C
theorem EV_set {p : Program} {e : Env} {R : Room} {s : State} {m : MethodId} {args : Array Value} {below : List Frame} {meth : Method} {c : Code} {H1 : Heap} {locs1 : List Loc} {dC : Nat → ClassId} {dI : Nat → Nat → Nat} {ad : Nat → Nat} {cA : Nat → ClassId} {A : Nat → Prop} {ls : Array Slot} {k : Nat} {cl : AC} {w' : List AC} (hw' : w.set k cl = w') (C : Cx0 p R s m args meth c b own nL ret d dC dI ad cA A w.length) (hP : va_P (dC, dI) classes (wsm ad cA (w.set k cl)) H1) (hS : va_S A s.heap H1 locs1) (ow : okw (w.set k cl)) (ol : okl lv) (os : oks st) (hl : lv_has ls nL (lvm ad lv)) (kk : EV l b own nL ret d pc lv st w' K) :
    W p l e R s m args below meth c H1 locs1 0 0 (MQ below (Qk dC dI ad cA A w.length K) args s 0 0 A) (F0 m pc ls (stm ad st)) := by
  subst hw'
  have hlen : (w.set k cl).length = w.length := List.length_set
  have h := kk p e R s m args below meth c H1 locs1 dC dI ad cA A (Cx0_len hlen C) ⟨hP, hS, ow⟩ ol os ls hl
  rw [hlen] at h
  exact h
theorem EV_put {k idx ci j N : Nat} {Cn : String} {T : u_T} {ty0 : Nat → FieldType} {ty : FieldType} {fs : List AV} {v : AV} {w' : List AC} (hd : decode b pc = .ok (.putfield idx, 3)) (hw : w[k]? = some (cO ci fs)) (hc : classes[ci]? = some (Cn, T, N)) (hin : ∀ x ∈ u_ws Cn T N, x ∈ Wt) (hty : ∀ k, k < N → parseFieldDescriptor (T k).2.2.1 = some (ty0 k)) (hnm : ∀ a, a < N → ∀ b, b < N → a ≠ b → (T a).2.1 ≠ (T b).2.1) (hj : j < N) (hlk : Cond.fieldLink own idx (T j).1 (T j).2.1 (T j).2.2.1 ∈ Wt) (hfin : (T j).2.2.2 = false) (hpd : ty0 j = ty) (hnf : ∀ ad, narrow ty (cv ad v) = cv ad v ∧ fits ty (cv ad v) = true) (hjl : j < fs.length) (hw' : w.set k (cO ci (fs.set j v)) = w') (kk : EV l b own nL ret d (pc + 3) lv st w' K) : EV l b own nL ret d pc lv (v :: vR k :: st) w K := by
  intro p e R s m args below meth c H locs dC dI ad cA A C D ol os ls hl
  have of : ∀ x ∈ fs, okv x := D.2.2 _ (List.mem_of_getElem? hw)
  have e1 : (fs.map (cv ad)).set j (cv ad v) = (fs.set j v).map (cv ad) := by rw [List.map_set]
  have e2 : (wsm ad cA w).set k (ad k, .inr (ci, (fs.map (cv ad)).set j (cv ad v))) = wsm ad cA (w.set k (cO ci (fs.set j v))) := by rw [e1]; exact wsm_set (c := cO ci (fs.set j v))
  refine va_put (D := (dC, dI)) C.1 C.2.1 C.2.2.2.2.2.2.1 hin ty0 hty hnm C.2.2.2.2.2.1 C.2.2.2.2.2.2.2.2.1 D.1 (adk_D C.2.2.2.2.2.2.2.2.2.1) D.2.1 k (wsm_at hw) hc j hj (C.2.2.2.2.2.2.1 _ hlk) (fun _ h => h) hfin (by rw [hty j hj, hpd]) (hnf ad).1 (hnf ad).2 (by rw [List.length_map]; exact hjl) hd (fun H1 locs1 hP hD hS => ?_)
  rw [e2] at hP
  exact EV_set hw' C hP hS (okw_set D.2.2 (mem_set of (oks_h os))) ol (oks_t (oks_t os)) hl kk
theorem EV_iald {k n : Nat} {f : Int → Int} {i : Int} (hd : decode b pc = .ok (.iaload, 1)) (hw : w[k]? = some (cI 0 n f)) (h : 0 ≤ i ∧ i < n) (kk : EV l b own nL ret d (pc + 1) lv (vI (f i) :: st) w K) : EV l b own nL ret d pc lv (vI i :: vR k :: st) w K := by
  intro p e R s m args below meth c H locs dC dI ad cA A C D ol os ls hl
  have hi : R32 i := oks_h os
  have ok : ∀ j, R32 (f j) := D.2.2 _ (List.mem_of_getElem? hw)
  refine va_iald C.1 C.2.1 C.2.2.2.2.2.2.2.2.1 D.1 k 0 (wsm_at hw) rfl (oi_in hi h.1 h.2) hd ?_
  show W p l e R s m args below meth c H locs 0 0 _ (F0 m (pc + 1) ls (.int (Int32.ofInt (f (((Int32.ofInt i).toNatClampNeg : Nat) : Int))) :: stm ad st))
  rw [oi_clamp hi h.1, Int.toNat_of_nonneg h.1]
  exact kk p e R s m args below meth c H locs dC dI ad cA A C D ol (oks_c (ok i) (oks_t (oks_t os))) ls hl
theorem EV_cald {k n : Nat} {f : Int → Int} {i : Int} (hd : decode b pc = .ok (.caload, 1)) (hw : w[k]? = some (cI 1 n f)) (h : 0 ≤ i ∧ i < n) (kk : EV l b own nL ret d (pc + 1) lv (vI (f i) :: st) w K) : EV l b own nL ret d pc lv (vI i :: vR k :: st) w K := by
  intro p e R s m args below meth c H locs dC dI ad cA A C D ol os ls hl
  have hi : R32 i := oks_h os
  have ok : ∀ j, R32 (f j) := D.2.2 _ (List.mem_of_getElem? hw)
  refine va_cald C.1 C.2.1 C.2.2.2.2.2.2.2.2.1 D.1 k 1 (wsm_at hw) rfl (oi_in hi h.1 h.2) hd ?_
  show W p l e R s m args below meth c H locs 0 0 _ (F0 m (pc + 1) ls (.int (Int32.ofInt (f (((Int32.ofInt i).toNatClampNeg : Nat) : Int))) :: stm ad st))
  rw [oi_clamp hi h.1, Int.toNat_of_nonneg h.1]
  exact kk p e R s m args below meth c H locs dC dI ad cA A C D ol (oks_c (ok i) (oks_t (oks_t os))) ls hl
theorem EV_lald {k n : Nat} {f : Int → Nat} {i : Int} (hd : decode b pc = .ok (.laload, 1)) (hw : w[k]? = some (cL n f)) (h : 0 ≤ i ∧ i < n) (kk : EV l b own nL ret d (pc + 1) lv (vL (f i) :: st) w K) : EV l b own nL ret d pc lv (vI i :: vR k :: st) w K := by
  intro p e R s m args below meth c H locs dC dI ad cA A C D ol os ls hl
  have hi : R32 i := oks_h os
  have ok : ∀ j, f j < 18446744073709551616 := D.2.2 _ (List.mem_of_getElem? hw)
  refine va_lald C.1 C.2.1 C.2.2.2.2.2.2.2.2.1 D.1 k 2 (wsm_at hw) rfl (oi_in hi h.1 h.2) hd ?_
  show W p l e R s m args below meth c H locs 0 0 _ (F0 m (pc + 1) ls (.long (Int64.ofNat (f (((Int32.ofInt i).toNatClampNeg : Nat) : Int))) :: stm ad st))
  rw [oi_clamp hi h.1, Int.toNat_of_nonneg h.1]
  exact kk p e R s m args below meth c H locs dC dI ad cA A C D ol (oks_c (v := vL (f i)) (ok i) (oks_t (oks_t os))) ls hl
theorem EV_iast {k n : Nat} {f : Int → Int} {i x : Int} {w' : List AC} (hd : decode b pc = .ok (.iastore, 1)) (hw : w[k]? = some (cI 0 n f)) (h : 0 ≤ i ∧ i < n) (hw' : w.set k (cI 0 n (updI f i x)) = w') (kk : EV l b own nL ret d (pc + 1) lv st w' K) : EV l b own nL ret d pc lv (vI x :: vI i :: vR k :: st) w K := by
  intro p e R s m args below meth c H locs dC dI ad cA A C D ol os ls hl
  have hi : R32 i := oks_h (oks_t os)
  have ok : ∀ j, R32 (f j) := D.2.2 _ (List.mem_of_getElem? hw)
  refine va_iast C.1 C.2.1 C.2.2.2.2.2.2.2.2.1 D.1 (adk_D C.2.2.2.2.2.2.2.2.2.1) D.2.1 k 0 (wsm_at hw) rfl (oi_in hi h.1 h.2) hd (fun H1 locs1 hP hD hS => ?_)
  rw [oi_clamp hi h.1, arr_upd h.1] at hP
  have e2 : (wsm ad cA w).set k (ad k, .inl (cA 0, n, .inl (fun j : Nat => Int32.ofInt (updI f i x (j : Int))))) = wsm ad cA (w.set k (cI 0 n (updI f i x))) := wsm_set (c := cI 0 n (updI f i x))
  rw [e2] at hP
  exact EV_set hw' C hP hS (okw_set D.2.2 (okI_upd ok (oks_h os))) ol (oks_t (oks_t (oks_t os))) hl kk
theorem EV_cast {k n : Nat} {f : Int → Int} {i x : Int} {w' : List AC} (hd : decode b pc = .ok (.castore, 1)) (hw : w[k]? = some (cI 1 n f)) (h : 0 ≤ i ∧ i < n) (hc : 0 ≤ x ∧ x < 65536) (hw' : w.set k (cI 1 n (updI f i x)) = w') (kk : EV l b own nL ret d (pc + 1) lv st w' K) : EV l b own nL ret d pc lv (vI x :: vI i :: vR k :: st) w K := by
  intro p e R s m args below meth c H locs dC dI ad cA A C D ol os ls hl
  have hi : R32 i := oks_h (oks_t os)
  have ok : ∀ j, R32 (f j) := D.2.2 _ (List.mem_of_getElem? hw)
  refine va_cast C.1 C.2.1 C.2.2.2.2.2.2.2.2.1 D.1 (adk_D C.2.2.2.2.2.2.2.2.2.1) D.2.1 k 1 (wsm_at hw) rfl (oi_in hi h.1 h.2) hd (fun H1 locs1 hP hD hS => ?_)
  rw [oi_clamp hi h.1, oi_nar hc, arr_upd h.1] at hP
  have e2 : (wsm ad cA w).set k (ad k, .inl (cA 1, n, .inl (fun j : Nat => Int32.ofInt (updI f i x (j : Int))))) = wsm ad cA (w.set k (cI 1 n (updI f i x))) := wsm_set (c := cI 1 n (updI f i x))
  rw [e2] at hP
  exact EV_set hw' C hP hS (okw_set D.2.2 (okI_upd ok (oks_h os))) ol (oks_t (oks_t (oks_t os))) hl kk
theorem EV_last {k n : Nat} {f : Int → Nat} {i : Int} {x : Nat} {w' : List AC} (hd : decode b pc = .ok (.lastore, 1)) (hw : w[k]? = some (cL n f)) (h : 0 ≤ i ∧ i < n) (hw' : w.set k (cL n (updN f i x)) = w') (kk : EV l b own nL ret d (pc + 1) lv st w' K) : EV l b own nL ret d pc lv (vL x :: vI i :: vR k :: st) w K := by
  intro p e R s m args below meth c H locs dC dI ad cA A C D ol os ls hl
  have hi : R32 i := oks_h (oks_t os)
  have ok : ∀ j, f j < 18446744073709551616 := D.2.2 _ (List.mem_of_getElem? hw)
  refine va_last C.1 C.2.1 C.2.2.2.2.2.2.2.2.1 D.1 (adk_D C.2.2.2.2.2.2.2.2.2.1) D.2.1 k 2 (wsm_at hw) rfl (oi_in hi h.1 h.2) hd (fun H1 locs1 hP hD hS => ?_)
  rw [oi_clamp hi h.1, arr_updN h.1] at hP
  have e2 : (wsm ad cA w).set k (ad k, .inl (cA 2, n, .inr (.inl (fun j : Nat => Int64.ofNat (updN f i x (j : Int)))))) = wsm ad cA (w.set k (cL n (updN f i x))) := wsm_set (c := cL n (updN f i x))
  rw [e2] at hP
  exact EV_set hw' C hP hS (okw_set D.2.2 (okN_upd ok (oks_h os))) ol (oks_t (oks_t (oks_t os))) hl kk
theorem EV_alen {k t n : Nat} {f : Int → Int} (ht : t < 2) (hd : decode b pc = .ok (.arraylength, 1)) (hw : w[k]? = some (cI t n f)) (hn : n < 2147483648) (kk : EV l b own nL ret d (pc + 1) lv (vI (n : Int) :: st) w K) : EV l b own nL ret d pc lv (vR k :: st) w K := by
  intro p e R s m args below meth c H locs dC dI ad cA A C D ol os ls hl
  have hr : R32 (n : Int) := ⟨by omega, by omega⟩
  rcases (show t = 0 ∨ t = 1 by omega) with rfl | rfl
  · exact va_alen C.1 C.2.1 C.2.2.2.2.2.2.2.2.1 D.1 k 0 (wsm_at hw) (ty := .int) rfl (oi_nat n).symm hd (kk p e R s m args below meth c H locs dC dI ad cA A C D ol (oks_c hr (oks_t os)) ls hl)
  · exact va_alen C.1 C.2.1 C.2.2.2.2.2.2.2.2.1 D.1 k 1 (wsm_at hw) (ty := .char) rfl (oi_nat n).symm hd (kk p e R s m args below meth c H locs dC dI ad cA A C D ol (oks_c hr (oks_t os)) ls hl)
theorem EV_iret {x : Int} {ty : FieldType} (hd : decode b pc = .ok (.ireturn, 1)) (hr : ret = some ty) (hn : narrow ty (.int (Int32.ofInt x)) = .int (Int32.ofInt x)) (hK : K (some (vI x)) w) : EV l b own nL ret d pc lv ([vI x]) w K := by
  intro p e R s m args below meth c H locs dC dI ad cA A C D ol os ls hl
  exact W.zret C.1 C.2.1 (C.2.2.2.1.trans hr) hn (fun t ht hW => ⟨some (vI x), w, rfl, fun v hv => by cases hv; exact oks_h os, D.2.2, rfl, hK, by rw [ht]; exact D.1, D.2.1.F ht⟩) D.2.1.2.2 hd C.2.2.2.2.1
theorem EV_lret {x : Nat} (hd : decode b pc = .ok (.lreturn, 1)) (hr : ret = some .long) (hK : K (some (vL x)) w) : EV l b own nL ret d pc lv ([vL x]) w K := by
  intro p e R s m args below meth c H locs dC dI ad cA A C D ol os ls hl
  exact W.lret C.1 C.2.1 (C.2.2.2.1.trans hr) (fun t ht hW => ⟨some (vL x), w, rfl, fun v hv => by cases hv; exact oks_h os, D.2.2, rfl, hK, by rw [ht]; exact D.1, D.2.1.F ht⟩) D.2.1.2.2 hd C.2.2.2.2.1
theorem EV_vret (hd : decode b pc = .ok (.return_, 1)) (hr : ret = none) (hK : K none w) : EV l b own nL ret d pc lv ([]) w K := by
  intro p e R s m args below meth c H locs dC dI ad cA A C D ol os ls hl
  exact W.vret C.1 C.2.1 (C.2.2.2.1.trans hr) (fun t ht hW => ⟨none, w, rfl, fun v hv => (by cases hv), D.2.2, rfl, hK, by rw [ht]; exact D.1, D.2.1.F ht⟩) D.2.1.2.2 hd C.2.2.2.2.1
theorem EV_aret {k : Nat} {cn : String} (hd : decode b pc = .ok (.areturn, 1)) (hr : ret = some (.object cn)) (hK : K (some (vR k)) w) : EV l b own nL ret d pc lv ([vR k]) w K := by
  intro p e R s m args below meth c H locs dC dI ad cA A C D ol os ls hl
  exact W.aret C.1 C.2.1 (C.2.2.2.1.trans hr) (Or.inl ⟨cn, rfl⟩) (Or.inr ⟨ad k, rfl⟩) (fun t ht hW => ⟨some (vR k), w, rfl, fun v hv => by cases hv; exact trivial, D.2.2, rfl, hK, by rw [ht]; exact D.1, D.2.1.F ht⟩) D.2.1.2.2 hd C.2.2.2.2.1
theorem nw_int (x : Int) : narrow .int (.int (Int32.ofInt x)) = .int (Int32.ofInt x) := rfl
theorem nw_bool {x : Int} (h : x = 0 ∨ x = 1) : narrow .boolean (.int (Int32.ofInt x)) = .int (Int32.ofInt x) := by
  rcases h with rfl | rfl <;> decide +kernel
theorem nw_char {x : Int} (h : 0 ≤ x ∧ x < 65536) : narrow .char (.int (Int32.ofInt x)) = .int (Int32.ofInt x) := by
  obtain ⟨a, rfl⟩ := nn h.1
  rw [oi_nat]
  exact (pk_charN (q := a) (by omega)).1
end EVH
