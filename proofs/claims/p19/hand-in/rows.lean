section
def bt (x : Int32) (i : Nat) : Bool := x.toBitVec.getLsbD i
theorem b_ext {x y : Int32} (h : ∀ i, i < 32 → bt x i = bt y i) : x = y := Int32.toBitVec_inj.mp (BitVec.eq_of_getLsbD_eq (fun i hi => h i hi))
theorem b_or (x y : Int32) (i : Nat) : bt (x ||| y) i = (bt x i || bt y i) := by unfold bt; rw [Int32.toBitVec_or, BitVec.getLsbD_or]
theorem b_and (x y : Int32) (i : Nat) : bt (x &&& y) i = (bt x i && bt y i) := by unfold bt; rw [Int32.toBitVec_and, BitVec.getLsbD_and]
theorem b_xor (x y : Int32) (i : Nat) : bt (x ^^^ y) i = (bt x i ^^ bt y i) := by unfold bt; rw [Int32.toBitVec_xor, BitVec.getLsbD_xor]
theorem b_big {x : Int32} {i : Nat} (h : 32 ≤ i) : bt x i = false := BitVec.getLsbD_of_ge _ _ h
theorem b_m1 : ∀ i, i < 32 → bt (-1) i = true := by decide +kernel
theorem b_0 (i : Nat) : bt 0 i = false := BitVec.getLsbD_zero
theorem s_l : ∀ n, n < 32 → ((nI n &&& 31).toBitVec.smod 32).toNat = n := by decide +kernel
theorem b_shl (n : Nat) (hn : n < 32) (x : Int32) {i : Nat} (hi : i < 32) : bt (x <<< (nI n &&& 31)) i = (decide (n ≤ i) && bt x (i - n)) := by
  unfold bt
  rw [Int32.toBitVec_shiftLeft]
  show (x.toBitVec <<< ((nI n &&& 31).toBitVec.smod 32).toNat).getLsbD i = _
  rw [s_l n hn, BitVec.getLsbD_shiftLeft]
  rcases Nat.lt_or_ge i n with h | h
  · simp [h, Nat.not_le.mpr h]
  · simp [hi, h, Nat.not_lt.mpr h]
theorem b_sshr (n : Nat) (hn : n < 32) (x : Int32) {i : Nat} (hi : i < 32) : bt (x >>> (nI n &&& 31)) i = if n + i < 32 then bt x (n + i) else bt x 31 := by
  unfold bt
  rw [Int32.toBitVec_shiftRight]
  show (x.toBitVec.sshiftRight ((nI n &&& 31).toBitVec.smod 32).toNat).getLsbD i = _
  rw [s_l n hn, BitVec.getLsbD_sshiftRight, BitVec.msb_eq_getLsbD_last]
  simp [hi]
theorem nx_and (a b : Nat) : nI a &&& nI b = nI (a &&& b) := by
  apply Int32.toBitVec_inj.1
  show BitVec.ofNat 32 a &&& BitVec.ofNat 32 b = BitVec.ofNat 32 (a &&& b)
  apply BitVec.eq_of_getLsbD_eq
  intro i hi
  simp [hi]
theorem nx_xor (a b : Nat) : nI a ^^^ nI b = nI (a ^^^ b) := by
  apply Int32.toBitVec_inj.1
  show BitVec.ofNat 32 a ^^^ BitVec.ofNat 32 b = BitVec.ofNat 32 (a ^^^ b)
  apply BitVec.eq_of_getLsbD_eq
  intro i hi
  simp [hi]
theorem wb_tb (n : Nat) : (lN n).toBitVec = BitVec.ofNat 64 n := rfl
theorem wb_inj {a b : Int64} (h : a.toBitVec = b.toBitVec) : a = b := Int64.toBitVec_inj.mp h
theorem wb_tn {n : Nat} (h : n < 2 ^ 64) : (lN n).toBitVec.toNat = n := by rw [wb_tb, BitVec.toNat_ofNat, Nat.mod_eq_of_lt h]
theorem wb_c : ∀ k, k < 64 → ((nI k).toInt64 &&& 63) = lN k := by decide +kernel
theorem wb_cu : ∀ k, k < 64 → ((nI k).toInt64.toUInt64 &&& Int64.toUInt64 63) = UInt64.ofNat k := by decide +kernel
theorem wb_sm : ∀ k, k < 64 → (BitVec.ofNat 64 k).smod 64 = BitVec.ofNat 64 k := by decide +kernel
theorem wb_pw {a b : Nat} (h : a ≤ b) : 2 ^ b = 2 ^ a * 2 ^ (b - a) := by rw [← Nat.pow_add]; congr 1; omega
theorem wb_lt2 {a b : Nat} (h : a < b) : 2 ^ a < 2 ^ b := Nat.pow_lt_pow_right (by decide) h
theorem wb_mod (n : Nat) : lN n = lN (n % 2 ^ 64) := wb_inj (by rw [wb_tb, wb_tb]; apply BitVec.eq_of_toNat_eq; rw [BitVec.toNat_ofNat, BitVec.toNat_ofNat, Nat.mod_mod])
theorem wb_shr {n k : Nat} (hn : n < 2 ^ 64) (hk : k < 64) : ((lN n).toUInt64 >>> ((nI k).toInt64.toUInt64 &&& Int64.toUInt64 63)).toInt64 = lN (n / 2 ^ k) := by
  rw [wb_cu k hk]
  apply wb_inj
  apply BitVec.eq_of_toNat_eq
  show ((lN n).toUInt64 >>> UInt64.ofNat k).toNat = (BitVec.ofNat 64 _).toNat
  have h1 : (UInt64.ofNat k).toNat = k := by
    show (BitVec.ofNat 64 k).toNat = k
    rw [BitVec.toNat_ofNat, Nat.mod_eq_of_lt (by omega)]
  have h2 : (lN n).toUInt64.toNat = n := wb_tn hn
  rw [UInt64.toNat_shiftRight, h1, h2, Nat.mod_eq_of_lt hk, Nat.shiftRight_eq_div_pow, BitVec.toNat_ofNat, Nat.mod_eq_of_lt (Nat.lt_of_le_of_lt (Nat.div_le_self _ _) hn)]
theorem wb_shl (n : Nat) {k : Nat} (hk : k < 64) : lN n <<< ((nI k).toInt64 &&& 63) = lN (n * 2 ^ k) := by
  rw [wb_c k hk]
  apply wb_inj
  rw [Int64.toBitVec_shiftLeft, wb_tb, wb_tb, wb_tb, wb_sm k hk]
  apply BitVec.eq_of_toNat_eq
  rw [BitVec.shiftLeft_eq', BitVec.toNat_shiftLeft, BitVec.toNat_ofNat, BitVec.toNat_ofNat, BitVec.toNat_ofNat, Nat.mod_eq_of_lt (show k < 2 ^ 64 by omega), Nat.shiftLeft_eq, Nat.mul_mod, Nat.mod_mod, ← Nat.mul_mod]
theorem wb_and {a b : Nat} (ha : a < 2 ^ 64) (hb : b < 2 ^ 64) : lN a &&& lN b = lN (a &&& b) := by
  apply wb_inj
  rw [Int64.toBitVec_and, wb_tb, wb_tb, wb_tb]
  apply BitVec.eq_of_toNat_eq
  rw [BitVec.toNat_and, BitVec.toNat_ofNat, BitVec.toNat_ofNat, BitVec.toNat_ofNat, Nat.mod_eq_of_lt ha, Nat.mod_eq_of_lt hb, Nat.mod_eq_of_lt (Nat.and_lt_two_pow _ hb)]
theorem wb_or {a b : Nat} (ha : a < 2 ^ 64) (hb : b < 2 ^ 64) : lN a ||| lN b = lN (a ||| b) := by
  apply wb_inj
  rw [Int64.toBitVec_or, wb_tb, wb_tb, wb_tb]
  apply BitVec.eq_of_toNat_eq
  rw [BitVec.toNat_or, BitVec.toNat_ofNat, BitVec.toNat_ofNat, BitVec.toNat_ofNat, Nat.mod_eq_of_lt ha, Nat.mod_eq_of_lt hb, Nat.mod_eq_of_lt (Nat.or_lt_two_pow ha hb)]
theorem u_tn {n : Nat} (h : n < 2 ^ 64) : (UInt64.ofNat n).toNat = n := Nat.mod_eq_of_lt h
theorem g_or {k p a b : Nat} (hp : 2 ^ k = p) (ha : a < p) (h : b * p + a < 2 ^ 64) : lN (b * p) ||| lN a = lN (b * p + a) := by
  subst hp
  have h1 : b * 2 ^ k ||| a = b * 2 ^ k + a := by rw [← Nat.shiftLeft_eq, Nat.shiftLeft_add_eq_or_of_lt ha]
  have h3 : UInt64.ofNat (b * 2 ^ k) ||| UInt64.ofNat a = UInt64.ofNat (b * 2 ^ k + a) := UInt64.toNat_inj.mp (by rw [UInt64.toNat_or, u_tn (by omega), u_tn (by omega), u_tn h, h1])
  have h2 := congrArg UInt64.toInt64 h3
  exact h2
theorem g_or' {k p a b : Nat} (hp : 2 ^ k = p) (ha : a < p) (h : a + b * p < 2 ^ 64) : lN a ||| lN (b * p) = lN (a + b * p) := by
  rw [Int64.or_comm, g_or hp ha (by omega), Nat.add_comm]
end
section
theorem ps_or (a b : Nat) : nI a ||| nI b = nI (a ||| b) := by
  apply Int32.toBitVec_inj.1
  show BitVec.ofNat 32 a ||| BitVec.ofNat 32 b = BitVec.ofNat 32 (a ||| b)
  apply BitVec.eq_of_getLsbD_eq
  intro i hi
  simp [hi]
theorem ps_or1 (a b : Nat) (h : b < 2) : nI (2 * a) ||| nI b = nI (2 * a + b) := by
  have e := Nat.two_pow_add_eq_or_of_lt (i := 1) (b := b) (by omega) a
  rw [ps_or]
  exact congrArg nI e.symm
theorem ps_orT (m i : Nat) (h : m < 2 ^ i) : nI m ||| nI (2 ^ i) = nI (m + 2 ^ i) := by
  have e := Nat.two_pow_add_eq_or_of_lt h 1
  rw [Nat.mul_one] at e
  rw [ps_or, Nat.or_comm, ← e, Nat.add_comm]
theorem ps_shr {s i : Nat} (hs : s < 2 ^ 31) (hi : i < 32) : nI s >>> (nI i &&& 31) = nI (s / 2 ^ i) := pk_shrN hs _ i (s_l i hi)
theorem ps_dle (s i : Nat) : s / 2 ^ i ≤ s := Nat.div_le_self _ _
theorem ps_bit {s i : Nat} (hs : s < 2 ^ 31) (hi : i < 32) : (nI s >>> (nI i &&& 31)) &&& 1 = nI (s / 2 ^ i % 2) := by
  rw [ps_shr hs hi]
  exact pk_andN (Nat.lt_of_le_of_lt (ps_dle s i) (by omega)) 1 (by decide)
theorem ps_one : ∀ i, i < 31 → (1 : Int32) <<< (nI i &&& 31) = nI (2 ^ i) := by decide +kernel
theorem ps_clr : ∀ s, s < 256 → ∀ i, i < 8 → s / 2 ^ i % 2 = 1 → nI s &&& (((1 : Int32) <<< (nI i &&& 31)) ^^^ (-1)) = nI (s - 2 ^ i) := by decide +kernel
theorem ps_sble {s f : Nat} (hs : s < 2 ^ 31) (h : nI s &&& (nI f ^^^ (-1)) = 0) : s ≤ f := by
  have e : nI s &&& nI f = nI s := b_ext fun i hi => by
    have q : bt (nI s &&& (nI f ^^^ (-1))) i = false := by
      rw [h]
      exact b_0 i
    rw [b_and, b_xor, b_m1 i hi] at q
    rw [b_and]
    revert q
    cases bt (nI s) i <;> cases bt (nI f) i <;> simp
  have l1 : s &&& f ≤ s := Nat.and_le_left
  have l2 : s &&& f ≤ f := Nat.and_le_right
  rw [nx_and, nI_eq (by omega) hs] at e
  omega
theorem ps_p8 {i : Nat} (h : i ≤ 8) : 2 ^ i ≤ 256 := by
  have e := Nat.pow_le_pow_right (n := 2) (by decide) h
  exact e
theorem ps_p0 (i : Nat) : 0 < 2 ^ i := Nat.two_pow_pos i
theorem ps_b2 (q : Nat) : q % 2 < 2 := Nat.mod_lt q (by decide)
theorem ps_b01 (q : Nat) : q % 2 = 0 ∨ q % 2 = 1 := by omega
def ps_i (b : Bool) : Int32 := if b = true then 1 else 0
theorem ps_iT {b : Bool} (h : b = true) : ps_i b = 1 := if_pos h
theorem ps_iF {b : Bool} (h : b = false) : ps_i b = 0 := by rw [h]; rfl
theorem ps_nb (b : Bool) : narrow .boolean (.int (ps_i b)) = .int (ps_i b) := by cases b <;> rfl
theorem ps_vb (b : Bool) : vp_nar .boolean (ps_i b) = ps_i b := by cases b <;> rfl
theorem ps_i0 (b : Bool) : ps_i b = 0 ↔ b = false := by cases b <;> decide
theorem ps_nf {b : Bool} (h : ¬ b = true) : b = false := by cases b with | false => rfl | true => exact absurd rfl h
theorem ps_nt {b : Bool} (h : ¬ b = false) : b = true := by cases b with | true => rfl | false => exact absurd rfl h
def ps_cnt (R : Nat) : Nat → Nat
  | 0 => 0
  | m + 1 => ps_cnt R m + R / 2 ^ m % 2
theorem ps_cnt_le (R m : Nat) : ps_cnt R m ≤ m := by
  induction m with
  | zero => exact Nat.le_refl 0
  | succ m ih =>
    show ps_cnt R m + R / 2 ^ m % 2 ≤ m + 1
    have h := ps_b2 (R / 2 ^ m)
    generalize R / 2 ^ m % 2 = q at *
    omega
theorem ps_cnt0 (m : Nat) : ps_cnt 0 m = 0 := by
  induction m with
  | zero => rfl
  | succ m ih =>
    show ps_cnt 0 m + 0 / 2 ^ m % 2 = 0
    rw [ih, Nat.zero_div]
def ps_dp (T : Nat → Nat) : Nat → Nat
  | 0 => 0
  | i + 1 => if T i < 256 then ps_dp T i + 1 else ps_dp T i - (T i - 256) % 8
def ps_lk (T : Nat → Nat) : Nat → Nat
  | 0 => 0
  | i + 1 => if T i < 256 then ps_lk T i + 1 else ps_lk T i
def ps_rv (T : Nat → Nat) (s : Nat) : Nat → Nat
  | 0 => 0
  | i + 1 => if T i < 256 then 2 * ps_rv T s i + s / 2 ^ ps_lk T i % 2
    else 2 * (ps_rv T s i / 2 ^ ((T i - 256) % 8 + 1)) + (if (T i - 256) / 8 + 1 ≤ ps_cnt (ps_rv T s i) ((T i - 256) % 8 + 1) then 1 else 0)
def ps_ok (T : Nat → Nat) (tc : Nat) : Prop := ∀ i, i < tc → T i < 320 ∧ (256 ≤ T i → (T i - 256) % 8 + 1 ≤ ps_dp T i)
theorem ps_dpL {T : Nat → Nat} {i : Nat} (h : T i < 256) : ps_dp T (i + 1) = ps_dp T i + 1 := if_pos h
theorem ps_dpJ {T : Nat → Nat} {i : Nat} (h : ¬ T i < 256) : ps_dp T (i + 1) = ps_dp T i - (T i - 256) % 8 := if_neg h
theorem ps_lkL {T : Nat → Nat} {i : Nat} (h : T i < 256) : ps_lk T (i + 1) = ps_lk T i + 1 := if_pos h
theorem ps_lkJ {T : Nat → Nat} {i : Nat} (h : ¬ T i < 256) : ps_lk T (i + 1) = ps_lk T i := if_neg h
theorem ps_rvL {T : Nat → Nat} {s i : Nat} (h : T i < 256) : ps_rv T s (i + 1) = 2 * ps_rv T s i + s / 2 ^ ps_lk T i % 2 := if_pos h
theorem ps_rvJ {T : Nat → Nat} {s i : Nat} (h : ¬ T i < 256) : ps_rv T s (i + 1) = 2 * (ps_rv T s i / 2 ^ ((T i - 256) % 8 + 1)) + (if (T i - 256) / 8 + 1 ≤ ps_cnt (ps_rv T s i) ((T i - 256) % 8 + 1) then 1 else 0) := if_neg h
theorem ps_dp_c {T T' : Nat → Nat} : ∀ i, (∀ j, j < i → T' j = T j) → ps_dp T' i = ps_dp T i := by
  intro i
  induction i with
  | zero => exact fun _ => rfl
  | succ i ih =>
    intro h
    have e := ih (fun j hj => h j (by omega))
    have t := h i (by omega)
    show (if T' i < 256 then ps_dp T' i + 1 else ps_dp T' i - (T' i - 256) % 8) = (if T i < 256 then ps_dp T i + 1 else ps_dp T i - (T i - 256) % 8)
    rw [e, t]
theorem ps_lk_c {T T' : Nat → Nat} : ∀ i, (∀ j, j < i → T' j = T j) → ps_lk T' i = ps_lk T i := by
  intro i
  induction i with
  | zero => exact fun _ => rfl
  | succ i ih =>
    intro h
    have e := ih (fun j hj => h j (by omega))
    have t := h i (by omega)
    show (if T' i < 256 then ps_lk T' i + 1 else ps_lk T' i) = (if T i < 256 then ps_lk T i + 1 else ps_lk T i)
    rw [e, t]
theorem ps_dp_lk (T : Nat → Nat) (i : Nat) : ps_dp T i ≤ ps_lk T i := by
  induction i with
  | zero => exact Nat.le_refl 0
  | succ i ih =>
    by_cases h : T i < 256
    · rw [ps_dpL h, ps_lkL h]; omega
    · rw [ps_dpJ h, ps_lkJ h]; omega
theorem ps_lk_s (T : Nat → Nat) (i : Nat) : ps_lk T i ≤ ps_lk T (i + 1) := by
  by_cases h : T i < 256
  · rw [ps_lkL h]; omega
  · rw [ps_lkJ h]; exact Nat.le_refl _
theorem ps_lk_m (T : Nat → Nat) (i : Nat) : ∀ d, ps_lk T i ≤ ps_lk T (i + d) := by
  intro d
  induction d with
  | zero => exact Nat.le_refl _
  | succ d ih => exact Nat.le_trans ih (ps_lk_s T (i + d))
theorem ps_lk_le {T : Nat → Nat} {i j : Nat} (h : i ≤ j) : ps_lk T i ≤ ps_lk T j := by
  have e := ps_lk_m T i (j - i)
  rw [show i + (j - i) = j by omega] at e
  exact e
theorem ps_rv_lt {T : Nat → Nat} {tc s : Nat} (h : ps_ok T tc) : ∀ i, i ≤ tc → ps_rv T s i < 2 ^ ps_dp T i := by
  intro i
  induction i with
  | zero => exact fun _ => Nat.one_pos
  | succ i ih =>
    intro hi
    have r := ih (by omega)
    by_cases t : T i < 256
    · rw [ps_rvL t, ps_dpL t, Nat.pow_succ]
      have b := ps_b2 (s / 2 ^ ps_lk T i)
      generalize s / 2 ^ ps_lk T i % 2 = q at *
      generalize 2 ^ ps_dp T i = z at *
      omega
    · rw [ps_rvJ t, ps_dpJ t]
      have n := (h i (by omega)).2 (by omega)
      generalize (T i - 256) % 8 = m at *
      obtain ⟨d, e⟩ : ∃ d, ps_dp T i = (m + 1) + d := ⟨ps_dp T i - (m + 1), by omega⟩
      rw [e] at r ⊢
      rw [show m + 1 + d - m = d + 1 by omega, show 2 ^ (d + 1) = 2 ^ d * 2 from Nat.pow_succ 2 d]
      have q : ps_rv T s i / 2 ^ (m + 1) < 2 ^ d := by
        rw [Nat.div_lt_iff_lt_mul (ps_p0 _), Nat.mul_comm, ← Nat.pow_add]
        exact r
      generalize ps_rv T s i / 2 ^ (m + 1) = x at *
      generalize 2 ^ d = z at *
      split <;> omega
theorem ps_rv0 (T : Nat → Nat) (i : Nat) : ps_rv T 0 i = 0 := by
  induction i with
  | zero => rfl
  | succ i ih =>
    by_cases t : T i < 256
    · rw [ps_rvL t, ih, Nat.zero_div]
    · rw [ps_rvJ t, ih, ps_cnt0, Nat.zero_div, if_neg (by omega)]
def ps_tr (T : Nat → Nat) (tc s : Nat) : Bool := decide (ps_rv T s tc = 1)
theorem ps_tr0 (T : Nat → Nat) (tc : Nat) : ps_tr T tc 0 = false := by
  unfold ps_tr
  rw [ps_rv0]
  rfl
theorem ps_bS (a b x : Nat) (h : b < 2) : (2 * a + b) / 2 ^ (x + 1) = a / 2 ^ x := by
  rw [Nat.pow_succ, Nat.mul_comm (2 ^ x) 2, ← Nat.div_div_eq_div_mul]
  rw [show (2 * a + b) / 2 = a by omega]
theorem ps_bD (a n x : Nat) : a / 2 ^ n / 2 ^ x = a / 2 ^ (n + x) := by
  rw [Nat.div_div_eq_div_mul, ← Nat.pow_add]
theorem ps_hi {s m i : Nat} (h : s < 2 ^ m) (hi : m ≤ i) : s / 2 ^ i % 2 = 0 := by
  have e : 2 ^ m ≤ 2 ^ i := Nat.pow_le_pow_right (by decide) hi
  rw [Nat.div_eq_of_lt (by omega)]
end
section
def ps_mnA (P : Nat → Bool) (s : Nat) : Nat → Bool
  | 0 => true
  | m + 1 => ps_mnA P s m && !(decide (s / 2 ^ m % 2 = 1) && P (s - 2 ^ m))
theorem ps_mnA_f {P : Nat → Bool} {s m : Nat} (h : ps_mnA P s m = false) : ∀ d, ps_mnA P s (m + d) = false := by
  intro d
  induction d with
  | zero => exact h
  | succ d ih =>
    show (ps_mnA P s (m + d) && _) = false
    rw [ih]
    rfl
theorem ps_mnA_le {P : Nat → Bool} {s m j : Nat} (h : ps_mnA P s m = false) (hj : m ≤ j) : ps_mnA P s j = false := by
  have e := ps_mnA_f h (j - m)
  rw [show m + (j - m) = j by omega] at e
  exact e
theorem ps_mnA_hi {P : Nat → Bool} {s m : Nat} (h : s < 2 ^ m) : ∀ d, ps_mnA P s (m + d) = ps_mnA P s m := by
  intro d
  induction d with
  | zero => rfl
  | succ d ih =>
    show (ps_mnA P s (m + d) && !(decide (s / 2 ^ (m + d) % 2 = 1) && P (s - 2 ^ (m + d)))) = _
    rw [ih, ps_hi h (show m ≤ m + d by omega)]
    simp
theorem ps_mnA_8 {P : Nat → Bool} {s m : Nat} (h : s < 2 ^ m) (hm : m ≤ 8) : ps_mnA P s 8 = ps_mnA P s m := by
  have e := ps_mnA_hi (P := P) h (8 - m)
  rw [show m + (8 - m) = 8 by omega] at e
  exact e
def ps_mn (P : Nat → Bool) (m s : Nat) : Bool := P s && ps_mnA P s m
def ps_wt (w L : Nat → Nat) (s : Nat) : Nat → Nat
  | 0 => 0
  | m + 1 => ps_wt w L s m + (if s / 2 ^ m % 2 = 1 then w (L m / 64) else 0)
theorem ps_wt_hi {w L : Nat → Nat} {s m : Nat} (h : s < 2 ^ m) : ∀ d, ps_wt w L s (m + d) = ps_wt w L s m := by
  intro d
  induction d with
  | zero => rfl
  | succ d ih =>
    show ps_wt w L s (m + d) + (if s / 2 ^ (m + d) % 2 = 1 then w (L (m + d) / 64) else 0) = _
    rw [ih, ps_hi h (show m ≤ m + d by omega), if_neg (by decide)]
    rfl
theorem ps_wt_8 {w L : Nat → Nat} {s m : Nat} (h : s < 2 ^ m) (hm : m ≤ 8) : ps_wt w L s 8 = ps_wt w L s m := by
  have e := ps_wt_hi (w := w) (L := L) h (8 - m)
  rw [show m + (8 - m) = 8 by omega] at e
  exact e
theorem ps_wt_le {w L : Nat → Nat} {s : Nat} (hw : ∀ k, w k ≤ 99) : ∀ m, ps_wt w L s m ≤ 99 * m := by
  intro m
  induction m with
  | zero => exact Nat.le_refl 0
  | succ m ih =>
    show ps_wt w L s m + (if s / 2 ^ m % 2 = 1 then w (L m / 64) else 0) ≤ 99 * (m + 1)
    have h := hw (L m / 64)
    split <;> omega
def ps_mk (p : Nat → Bool) : Nat → Nat
  | 0 => 0
  | m + 1 => ps_mk p m + (if p m = true then 2 ^ m else 0)
theorem ps_mkT {p : Nat → Bool} {m : Nat} (h : p m = true) : ps_mk p (m + 1) = ps_mk p m + 2 ^ m := by
  show ps_mk p m + (if p m = true then 2 ^ m else 0) = _
  rw [if_pos h]
theorem ps_mkF {p : Nat → Bool} {m : Nat} (h : p m = false) : ps_mk p (m + 1) = ps_mk p m := by
  show ps_mk p m + (if p m = true then 2 ^ m else 0) = _
  rw [if_neg (by rw [h]; decide)]
  rfl
theorem ps_mk_lt (p : Nat → Bool) (m : Nat) : ps_mk p m < 2 ^ m := by
  induction m with
  | zero => exact Nat.one_pos
  | succ m ih =>
    show ps_mk p m + (if p m = true then 2 ^ m else 0) < 2 ^ (m + 1)
    rw [Nat.pow_succ]
    generalize 2 ^ m = z at *
    split <;> omega
theorem ps_mk_c {p q : Nat → Bool} : ∀ m, (∀ i, i < m → p i = q i) → ps_mk p m = ps_mk q m := by
  intro m
  induction m with
  | zero => exact fun _ => rfl
  | succ m ih =>
    intro h
    show ps_mk p m + (if p m = true then 2 ^ m else 0) = ps_mk q m + (if q m = true then 2 ^ m else 0)
    rw [ih (fun i hi => h i (by omega)), h m (by omega)]
theorem ps_mk_x {p : Nat → Bool} {m : Nat} : ∀ d, (∀ i, m ≤ i → i < m + d → p i = false) → ps_mk p (m + d) = ps_mk p m := by
  intro d
  induction d with
  | zero => exact fun _ => rfl
  | succ d ih =>
    intro h
    rw [← Nat.add_assoc, ps_mkF (h (m + d) (by omega) (by omega))]
    exact ih (fun i a b => h i a (by omega))
theorem ps_mk_8 {p : Nat → Bool} {m : Nat} (hm : m ≤ 8) (h : ∀ i, m ≤ i → i < 8 → p i = false) : ps_mk p 8 = ps_mk p m := by
  have e := ps_mk_x (p := p) (m := m) (8 - m) (fun i a b => h i a (by omega))
  rw [show m + (8 - m) = 8 by omega] at e
  exact e
theorem ps_mk_b {p : Nat → Bool} {i : Nat} : ∀ m, i < m → ps_mk p m / 2 ^ i % 2 = (if p i = true then 1 else 0) := by
  intro m
  induction m with
  | zero => intro h; omega
  | succ m ih =>
    intro h
    by_cases e : i = m
    · subst e
      show (ps_mk p i + (if p i = true then 2 ^ i else 0)) / 2 ^ i % 2 = _
      have l := ps_mk_lt p i
      split
      · rw [Nat.add_div_right _ (ps_p0 i), Nat.div_eq_of_lt l]
      · rw [Nat.add_zero, Nat.div_eq_of_lt l]
    · have r := ih (by omega)
      obtain ⟨d, rfl⟩ : ∃ d, m = i + (1 + d) := ⟨m - i - 1, by omega⟩
      show (ps_mk p (i + (1 + d)) + (if p (i + (1 + d)) = true then 2 ^ (i + (1 + d)) else 0)) / 2 ^ i % 2 = _
      rw [← r]
      split
      · rw [Nat.pow_add 2 i, Nat.add_mul_div_left _ _ (ps_p0 i), Nat.pow_add 2 1]
        generalize ps_mk p (i + (1 + d)) / 2 ^ i = x
        generalize 2 ^ d = z
        omega
      · rfl
def ps_bs (g : Nat → Bool) (w : Nat → Nat) : Nat → Nat
  | 0 => 0
  | m + 1 => if g m = true ∧ (ps_bs g w m = 0 ∨ w m < w (ps_bs g w m)) then m else ps_bs g w m
theorem ps_bsT {g : Nat → Bool} {w : Nat → Nat} {m : Nat} (h : g m = true) (h2 : ps_bs g w m = 0 ∨ w m < w (ps_bs g w m)) : ps_bs g w (m + 1) = m := if_pos ⟨h, h2⟩
theorem ps_bsF {g : Nat → Bool} {w : Nat → Nat} {m : Nat} (h : g m = false) : ps_bs g w (m + 1) = ps_bs g w m := if_neg (by rw [h]; exact fun z => absurd z.1 (by decide))
theorem ps_bsN {g : Nat → Bool} {w : Nat → Nat} {m : Nat} (h : ¬ ps_bs g w m = 0) (h2 : ¬ w m < w (ps_bs g w m)) : ps_bs g w (m + 1) = ps_bs g w m := if_neg (fun z => z.2.elim h h2)
theorem ps_bs1 (g : Nat → Bool) (w : Nat → Nat) : ps_bs g w 1 = 0 := by
  show (if g 0 = true ∧ (ps_bs g w 0 = 0 ∨ w 0 < w (ps_bs g w 0)) then 0 else ps_bs g w 0) = 0
  split <;> rfl
theorem ps_bs_in (g : Nat → Bool) (w : Nat → Nat) (m : Nat) : ps_bs g w m = 0 ∨ (ps_bs g w m < m ∧ g (ps_bs g w m) = true) := by
  induction m with
  | zero => exact Or.inl rfl
  | succ m ih =>
    by_cases c : g m = true ∧ (ps_bs g w m = 0 ∨ w m < w (ps_bs g w m))
    · have e : ps_bs g w (m + 1) = m := if_pos c
      rw [e]
      exact Or.inr ⟨by omega, c.1⟩
    · have e : ps_bs g w (m + 1) = ps_bs g w m := if_neg c
      rw [e]
      rcases ih with a | ⟨a, b⟩
      · exact Or.inl a
      · exact Or.inr ⟨by omega, b⟩
theorem ps_bs_x {g : Nat → Bool} {w : Nat → Nat} {m : Nat} : ∀ d, (∀ i, m ≤ i → i < m + d → g i = false) → ps_bs g w (m + d) = ps_bs g w m := by
  intro d
  induction d with
  | zero => exact fun _ => rfl
  | succ d ih =>
    intro h
    rw [← Nat.add_assoc, ps_bsF (h (m + d) (by omega) (by omega))]
    exact ih (fun i a b => h i a (by omega))
theorem ps_bs_256 {g : Nat → Bool} {w : Nat → Nat} {m : Nat} (hm : m ≤ 256) (h : ∀ i, m ≤ i → i < 256 → g i = false) : ps_bs g w 256 = ps_bs g w m := by
  have e := ps_bs_x (g := g) (w := w) (m := m) (256 - m) (fun i a b => h i a (by omega))
  rw [show m + (256 - m) = 256 by omega] at e
  exact e
def ps_ct (g : Nat → Bool) : Nat → Nat
  | 0 => 0
  | m + 1 => ps_ct g m + (if g m = true then 1 else 0)
theorem ps_ctT {g : Nat → Bool} {m : Nat} (h : g m = true) : ps_ct g (m + 1) = ps_ct g m + 1 := by
  show ps_ct g m + (if g m = true then 1 else 0) = _
  rw [if_pos h]
theorem ps_ctF {g : Nat → Bool} {m : Nat} (h : g m = false) : ps_ct g (m + 1) = ps_ct g m := by
  show ps_ct g m + (if g m = true then 1 else 0) = _
  rw [if_neg (by rw [h]; decide)]
  rfl
theorem ps_ct_le (g : Nat → Bool) (m : Nat) : ps_ct g m ≤ m := by
  induction m with
  | zero => exact Nat.le_refl 0
  | succ m ih =>
    show ps_ct g m + (if g m = true then 1 else 0) ≤ m + 1
    split <;> omega
theorem ps_ct_x {g : Nat → Bool} {m : Nat} : ∀ d, (∀ i, m ≤ i → i < m + d → g i = false) → ps_ct g (m + d) = ps_ct g m := by
  intro d
  induction d with
  | zero => exact fun _ => rfl
  | succ d ih =>
    intro h
    rw [← Nat.add_assoc, ps_ctF (h (m + d) (by omega) (by omega))]
    exact ih (fun i a b => h i a (by omega))
theorem ps_ct_256 {g : Nat → Bool} {m : Nat} (hm : m ≤ 256) (h : ∀ i, m ≤ i → i < 256 → g i = false) : ps_ct g 256 = ps_ct g m := by
  have e := ps_ct_x (g := g) (m := m) (256 - m) (fun i a b => h i a (by omega))
  rw [show m + (256 - m) = 256 by omega] at e
  exact e
def ps_er (P : Nat → Bool) : Nat → Nat → Int32
  | 0, _ => -1
  | d + 1, t => if P t = true then nI t else ps_er P d (t + 1)
theorem ps_erT {P : Nat → Bool} {d t : Nat} (h : P t = true) : ps_er P (d + 1) t = nI t := if_pos h
theorem ps_erF {P : Nat → Bool} {d t : Nat} (h : P t = false) : ps_er P (d + 1) t = ps_er P d (t + 1) := if_neg (by rw [h]; decide)
def ps_ex (p : Nat → Bool) : Nat → Bool
  | 0 => false
  | m + 1 => ps_ex p m || p m
theorem ps_ex_t {p : Nat → Bool} {m : Nat} (h : ps_ex p m = true) : ∀ d, ps_ex p (m + d) = true := by
  intro d
  induction d with
  | zero => exact h
  | succ d ih =>
    show (ps_ex p (m + d) || _) = true
    rw [ih]
    rfl
theorem ps_ex_le {p : Nat → Bool} {m j : Nat} (h : ps_ex p m = true) (hj : m ≤ j) : ps_ex p j = true := by
  have e := ps_ex_t h (j - m)
  rw [show m + (j - m) = j by omega] at e
  exact e
theorem ps_exF {p : Nat → Bool} {m : Nat} (h : p m = false) : ps_ex p (m + 1) = ps_ex p m := by
  show (ps_ex p m || p m) = _
  rw [h, Bool.or_false]
theorem ps_exT {p : Nat → Bool} {m : Nat} (h : p m = true) : ps_ex p (m + 1) = true := by
  show (ps_ex p m || p m) = _
  rw [h, Bool.or_true]
theorem ps_ex_x {p : Nat → Bool} {m : Nat} : ∀ d, (∀ i, m ≤ i → i < m + d → p i = false) → ps_ex p (m + d) = ps_ex p m := by
  intro d
  induction d with
  | zero => exact fun _ => rfl
  | succ d ih =>
    intro h
    rw [← Nat.add_assoc, ps_exF (h (m + d) (by omega) (by omega))]
    exact ih (fun i a b => h i a (by omega))
theorem ps_ex_8 {p : Nat → Bool} {m : Nat} (hm : m ≤ 8) (h : ∀ i, m ≤ i → i < 8 → p i = false) : ps_ex p 8 = ps_ex p m := by
  have e := ps_ex_x (p := p) (m := m) (8 - m) (fun i a b => h i a (by omega))
  rw [show m + (8 - m) = 8 by omega] at e
  exact e
end
section
theorem px_sub {c : Nat} (h : 256 ≤ c) : nI c - 256 = nI (c - 256) := pk_sub (b := 256) h
theorem px_div8 {a : Nat} (h : a < 2 ^ 31) : nI a / 8 = nI (a / 8) := pk_div (d := 8) h (by decide) (by decide)
theorem px_rem8 {a : Nat} (h : a < 2 ^ 31) : nI a - nI a / 8 * 8 = nI (a % 8) := pk_rem (d := 8) h (by decide) (by decide)
theorem px_div64 {a : Nat} (h : a < 2 ^ 31) : nI a / 64 = nI (a / 64) := pk_div (d := 64) h (by decide) (by decide)
theorem px_rem64 {a : Nat} (h : a < 2 ^ 31) : nI a - nI a / 64 * 64 = nI (a % 64) := pk_rem (d := 64) h (by decide) (by decide)
theorem px_shl1 {a : Nat} (h : a < 2 ^ 30) : nI a <<< ((1 : Int32) &&& 31) = nI (2 * a) := by
  rw [pk_shlN ((1 : Int32) &&& 31) 1 (by decide) (by omega), Nat.mul_comm]
theorem px_jv {R n b : Nat} (hR : R < 512) (hn : n ≤ 8) (hb : b < 2) : ((nI R >>> (nI n &&& 31)) <<< ((1 : Int32) &&& 31)) ||| nI b = nI (2 * (R / 2 ^ n) + b) := by
  have h := ps_dle R n
  rw [ps_shr (by omega) (by omega), px_shl1 (by omega), ps_or1 _ _ hb]
theorem px_jloop {post : Int32 → Prop} {R n k : Nat} (hR : R < 512) (hn : n ≤ 8) (hk : k ≤ 8) (hp : post (nI (2 * (R / 2 ^ n) + (if k ≤ ps_cnt R n then 1 else 0)))) :
    ∀ d i, i + d = n → wX_joinLastRoots_28 post (nI R) (nI k) (nI n) (d + 1) (nI (ps_cnt R i)) (nI i) := by
  intro d
  induction d with
  | zero =>
    intro i hi
    cases (show i = n by omega)
    have hc := ps_cnt_le R n
    refine br_t (nI_le (Nat.le_refl _) (by omega)) (pk_lt (ps_cnt R n) k (fun h => ?_) (fun h => ?_))
    · rw [if_neg (by omega)] at hp
      exact ek_v (P := post) (px_jv (b := 0) hR hn (by decide)) hp
    · rw [if_pos h] at hp
      exact ek_v (P := post) (px_jv (b := 1) hR hn (by decide)) hp
  | succ d ih =>
    intro i hi
    refine br_f (nI_ge (by omega) (by omega)) (nm_r (e' := nI (ps_cnt R (i + 1))) ?_ (nm_r (nI_1 i) (ih (i + 1) (by omega))))
    rw [ps_bit (by omega) (by omega), nI_add]
    rfl
theorem px_join {post : Int32 → Prop} {R c : Nat} (hR : R < 512) (h1 : 256 ≤ c) (h2 : c < 320)
    (hp : post (nI (2 * (R / 2 ^ ((c - 256) % 8 + 1)) + (if (c - 256) / 8 + 1 ≤ ps_cnt R ((c - 256) % 8 + 1) then 1 else 0)))) : wpX_joinLastRoots post () (nI R) (nI c) := by
  refine ⟨by decide, nm_r (e' := nI ((c - 256) / 8 + 1)) ?_ ⟨by decide, nm_r (e' := nI ((c - 256) % 8 + 1)) ?_ ⟨_, px_jloop hR (by omega) (by omega) hp _ 0 (Nat.zero_add _)⟩⟩⟩
  · rw [px_sub h1, px_div8 (by omega), nI_1]
  · rw [px_sub h1, px_rem8 (by omega), nI_1]
section
variable {ml kw hw aw tc lc rc ck : Nat} {xd xe : Int32} {T L : Nat → Nat} {aS : Nat → Int32}
theorem px_tloop {post : Int32 → Prop} {s : Nat} (hok : ps_ok T tc) (hlk : ps_lk T tc ≤ 8) (htc : tc ≤ 15) (hs : s < 256) (hp : post (ps_i (ps_tr T tc s))) :
    ∀ d i, i + d = tc → wX_isTrue_7 post (nI s) (nI ml) (nI kw) (nI hw) (nI aw) (nI tc) (nI lc) (nI rc) xd xe (nI ck) (fun j => nI (T j)) (fun j => nI (L j)) aS (d + 1) (nI (ps_rv T s i)) (nI (ps_lk T i)) (nI i) := by
  intro d
  induction d with
  | zero =>
    intro i hi
    cases (show i = tc by omega)
    have r := ps_rv_lt (s := s) hok tc (Nat.le_refl _)
    have q := ps_p8 (Nat.le_trans (ps_dp_lk T tc) hlk)
    refine br_t (nI_le (Nat.le_refl _) (by omega)) (pk_eq (ps_rv T s tc) 1 (fun h => ?_) (fun h => ?_) rfl rfl (by omega))
    · rw [ps_tr, decide_eq_true h] at hp
      exact hp
    · rw [ps_tr, decide_eq_false h] at hp
      exact hp
  | succ d ih =>
    intro i hi
    have r := ps_rv_lt (s := s) hok i (by omega)
    have q := ps_p8 (Nat.le_trans (ps_dp_lk T i) (Nat.le_trans (ps_lk_le (show i ≤ tc by omega)) hlk))
    have q2 := Nat.le_trans (ps_lk_le (T := T) (show i ≤ tc by omega)) hlk
    have t := hok i (by omega)
    have n := ih (i + 1) (by omega)
    refine br_f (nI_ge (by omega) (by omega)) ⟨vp_in_nI (by omega) (by omega), nm_r (e' := nI (T i)) (congrArg (fun j => nI (T j)) (nI_clamp (by omega))) ?_⟩
    refine pk_le 256 (T i) (fun h => ?_) (fun h => ?_)
    · rw [ps_rvJ (by omega), ps_lkJ (by omega)] at n
      exact px_join (by omega) h t.1 (nm_r (nI_1 i) n)
    · rw [ps_rvL h, ps_lkL h] at n
      refine nm_r (e' := nI (2 * ps_rv T s i + s / 2 ^ ps_lk T i % 2)) ?_ (nm_r (nI_1 _) (nm_r (nI_1 i) n))
      rw [px_shl1 (by omega), ps_bit (by omega) (by omega), ps_or1 _ _ (ps_b2 _)]
theorem px_true {post : Int32 → Prop} {s : Nat} (hok : ps_ok T tc) (hlk : ps_lk T tc ≤ 8) (htc : tc ≤ 15) (hs : s < 256) (hp : post (ps_i (ps_tr T tc s))) : wpX_isTrue post (nI ml, nI kw, nI hw, nI aw, nI tc, nI lc, nI rc, xd, xe, nI ck, (fun j => nI (T j)), (fun j => nI (L j)), aS) (nI s) :=
  ⟨tc + 1, px_tloop hok hlk htc hs hp tc 0 (Nat.zero_add _)⟩
end
end
section
def ps_sb (s f : Nat) : Bool := decide (nI s &&& (nI f ^^^ (-1)) = 0)
theorem ps_sb_lt {s f m : Nat} (hs : s < 2 ^ 31) (hf : f < m) (h : m ≤ s) : ps_sb s f = false := by
  apply decide_eq_false
  intro e
  have := ps_sble hs e
  omega
def ps_fc (c : Nat) : Prop := 64 ≤ c ∧ c < 256 ∧ (c < 192 → c % 64 < 8)
def ps_hd (e : Int32) (c : Nat) : Bool := bt e ((c / 64 - 1) * 8 + c % 64)
theorem ps_1sh : ∀ p, p < 32 → ∀ i, i < 32 → bt ((1 : Int32) <<< (nI p &&& 31)) i = decide (i = p) := by decide +kernel
theorem ps_hd0 (e : Int32) (p : Nat) (hp : p < 32) : (e &&& ((1 : Int32) <<< (nI p &&& 31))) = 0 ↔ bt e p = false := by
  constructor
  · intro h
    have q : bt (e &&& ((1 : Int32) <<< (nI p &&& 31))) p = false := by
      rw [h]
      exact b_0 p
    rw [b_and, ps_1sh p hp p hp, decide_eq_true rfl, Bool.and_true] at q
    exact q
  · intro h
    apply b_ext
    intro i hi
    rw [b_and, ps_1sh p hp i hi, b_0]
    by_cases e2 : i = p
    · rw [e2, h]
      rfl
    · rw [decide_eq_false e2, Bool.and_false]
theorem px_contains {post : Int32 → Prop} {s i : Nat} (hs : s < 2 ^ 31) (hi : i < 32) (hp : post (ps_i (decide (s / 2 ^ i % 2 = 1)))) : wpX_contains post () (nI s) (nI i) := by
  unfold wpX_contains
  rw [ps_bit hs hi]
  have h2 := ps_b2 (s / 2 ^ i)
  refine pk_eq (s / 2 ^ i % 2) 1 (fun h => ?_) (fun h => ?_) rfl rfl (by omega)
  · rw [decide_eq_true h] at hp
    exact hp
  · rw [decide_eq_false h] at hp
    exact hp
theorem px_kind {post : Int32 → Prop} {c : Nat} (hc : c < 2 ^ 31) (hp : post (nI (c / 64))) : wpX_kindOf post () (nI c) :=
  ⟨by decide, ek_v (P := post) (px_div64 hc) hp⟩
theorem px_number {post : Int32 → Prop} {c : Nat} (hc : c < 2 ^ 31) (hp : post (nI (c % 64))) : wpX_numberOf post () (nI c) :=
  ⟨by decide, ek_v (P := post) (px_rem64 hc) hp⟩
theorem px_subset {post : Int32 → Prop} {s f : Nat} (hp : post (ps_i (ps_sb s f))) : wpX_isSubset post () (nI s) (nI f) := by
  refine br_c (fun h => ?_) (fun h => ?_)
  · rw [ps_sb, decide_eq_true h] at hp
    exact hp
  · rw [ps_sb, decide_eq_false h] at hp
    exact hp
theorem px_kn {c : Nat} (h : 64 ≤ c) : (nI (c / 64) - 1) * 8 + nI (c % 64) = nI ((c / 64 - 1) * 8 + c % 64) := by
  have e : nI (c / 64) - 1 = nI (c / 64 - 1) := pk_sub (b := 1) (by omega)
  have e2 : nI (c / 64 - 1) * 8 = nI ((c / 64 - 1) * 8) := pk_mul _ 8
  rw [e, e2, nI_add]
section
variable {ml kw hw aw tc lc rc ck : Nat} {xd xe : Int32} {T L : Nat → Nat} {aS : Nat → Int32}
theorem px_held {post : Int32 → Prop} {c : Nat} (h1 : 64 ≤ c) (h2 : c < 192) (h3 : c % 64 < 8) (hp : post (ps_i (ps_hd xe c))) : wpX_isHeld post (nI ml, nI kw, nI hw, nI aw, nI tc, nI lc, nI rc, xd, xe, nI ck, (fun j => nI (T j)), (fun j => nI (L j)), aS) (nI (c / 64)) (nI (c % 64)) := by
  unfold wpX_isHeld wpX_secretBit
  dsimp only
  rw [px_kn h1]
  refine ek_if (ps_hd0 xe _ (by omega)) (fun h => ?_) (fun h => ?_)
  · rw [ps_hd, h] at hp
    exact hp
  · rw [ps_hd, ps_nt h] at hp
    exact hp
def ps_fs (L : Nat → Nat) (s j : Nat) : Nat := if s / 2 ^ j % 2 = 1 then L j else 0
theorem px_floop {post : St2 → Prop} {s : Nat} (hlc : lc ≤ 8) (hs : s < 2 ^ 31)
    (hp : ∀ a : Nat → Int32, (∀ j, j < lc → a j = nI (ps_fs L s j)) → post (nI ml, nI kw, nI hw, nI aw, nI tc, nI lc, nI rc, xd, xe, nI ck, (fun j => nI (T j)), (fun j => nI (L j)), a)) :
    ∀ d i (a : Nat → Int32), i + d = lc → (∀ j, j < i → a j = nI (ps_fs L s j)) → wX_fillSlots_2 post (nI s) (nI ml) (nI kw) (nI hw) (nI aw) (nI tc) (nI lc) (nI rc) xd xe (nI ck) (d + 1) (nI i) (fun j => nI (T j)) (fun j => nI (L j)) a := by
  intro d
  induction d with
  | zero =>
    intro i a hi ha
    cases (show i = lc by omega)
    exact br_t (nI_le (Nat.le_refl _) (by omega)) (hp a ha)
  | succ d ih =>
    intro i a hi ha
    refine br_f (nI_ge (by omega) (by omega)) (px_contains hs (by omega) ?_)
    have st : ∀ x : Int32, x = nI (ps_fs L s i) → ∀ j, j < i + 1 → upd a (nI i).toNatClampNeg x j = nI (ps_fs L s j) := by
      intro x hx j hj
      rw [nI_clamp (by omega)]
      by_cases e : j = i
      · rw [e, pk_us, hx]
      · rw [pk_un e]
        exact ha j (by omega)
    by_cases b : s / 2 ^ i % 2 = 1
    · rw [decide_eq_true b]
      refine br_f (by decide) ⟨vp_in_nI (by omega) (by omega), ⟨vp_in_nI (by omega) (by omega), nm_e (nm_r (nI_1 i) (ih (i + 1) _ (by omega) (st _ ?_)))⟩⟩
      rw [ps_fs, if_pos b, nI_clamp (by omega)]
    · rw [decide_eq_false b]
      refine br_t (by decide) ⟨vp_in_nI (by omega) (by omega), nm_e (nm_r (nI_1 i) (ih (i + 1) _ (by omega) (st _ ?_)))⟩
      rw [ps_fs, if_neg b]
      rfl
theorem px_fill {post : St2 → Prop} {s : Nat} (hlc : lc ≤ 8) (hs : s < 2 ^ 31)
    (hp : ∀ a : Nat → Int32, (∀ j, j < lc → a j = nI (ps_fs L s j)) → post (nI ml, nI kw, nI hw, nI aw, nI tc, nI lc, nI rc, xd, xe, nI ck, (fun j => nI (T j)), (fun j => nI (L j)), a)) : wpX_fillSlots post (nI ml, nI kw, nI hw, nI aw, nI tc, nI lc, nI rc, xd, xe, nI ck, (fun j => nI (T j)), (fun j => nI (L j)), aS) (nI s) :=
  ⟨lc + 1, px_floop hlc hs hp lc 0 aS (Nat.zero_add _) (fun j h => absurd h (Nat.not_lt_zero j))⟩
theorem px_set {p : Nat → Bool} {i : Nat} (h : i < 31) : nI (ps_mk p i) ||| ((1 : Int32) <<< (nI i &&& 31)) = nI (ps_mk p i + 2 ^ i) := by
  rw [ps_one i h, ps_orT _ _ (ps_mk_lt p i)]
theorem px_kloop {post : Int32 → Prop} (hlc : lc ≤ 8) (hL : ∀ j, j < lc → ps_fc (L j)) (hp : post (nI (ps_mk (fun i => decide (¬ L i / 64 = 1)) lc))) :
    ∀ d i, i + d = lc → wX_keylessLocks_4 post (nI ml) (nI kw) (nI hw) (nI aw) (nI tc) (nI lc) (nI rc) xd xe (nI ck) (fun j => nI (T j)) (fun j => nI (L j)) aS (d + 1) (nI (ps_mk (fun i => decide (¬ L i / 64 = 1)) i)) (nI i) := by
  intro d
  induction d with
  | zero =>
    intro i hi
    cases (show i = lc by omega)
    exact br_t (nI_le (Nat.le_refl _) (by omega)) hp
  | succ d ih =>
    intro i hi
    have n := ih (i + 1) (by omega)
    have l := hL i (by omega)
    refine br_f (nI_ge (by omega) (by omega)) ⟨vp_in_nI (by omega) (by omega), ?_⟩
    rw [nI_clamp (by omega)]
    refine px_kind (by have := l.2.1; omega) (pk_eq (L i / 64) 1 (fun h => ?_) (fun h => ?_) rfl rfl (by have := l.2.1; omega))
    · rw [ps_mkF (by simp [h])] at n
      exact nm_r (nI_1 i) n
    · rw [ps_mkT (by simp [h])] at n
      exact nm_r (px_set (by omega)) (nm_r (nI_1 i) n)
theorem px_keyless {post : Int32 → Prop} (hlc : lc ≤ 8) (hL : ∀ j, j < lc → ps_fc (L j)) (hp : post (nI (ps_mk (fun i => decide (¬ L i / 64 = 1)) lc))) : wpX_keylessLocks post (nI ml, nI kw, nI hw, nI aw, nI tc, nI lc, nI rc, xd, xe, nI ck, (fun j => nI (T j)), (fun j => nI (L j)), aS) :=
  ⟨lc + 1, px_kloop hlc hL hp lc 0 (Nat.zero_add _)⟩
def ps_ow (L : Nat → Nat) (e : Int32) (t i : Nat) : Bool := if L i / 64 = 3 then decide (L i % 64 ≤ t) else ps_hd e (L i)
theorem px_ostep {post : Int32 → Prop} {J : Int32 → Int32 → Prop} {p : Nat → Bool} {i : Nat} {x : Int32} (hi : i < 31) (hJ : J (nI (ps_mk p (i + 1))) (nI (i + 1))) :
    wX_ownersLocks_62 post J x (nI (ps_mk p i)) (nI i) (ps_i (p i)) (nI ml) (nI kw) (nI hw) (nI aw) (nI tc) (nI lc) (nI rc) xd xe (nI ck) (fun j => nI (T j)) (fun j => nI (L j)) aS := by
  refine ek_if (ps_i0 (p i)) (fun h => ?_) (fun h => ?_)
  · rw [ps_mkF h] at hJ
    exact nm_r (nI_1 i) hJ
  · rw [ps_mkT (ps_nt h)] at hJ
    exact nm_r (px_set hi) (nm_r (nI_1 i) hJ)
theorem px_oloop {post : Int32 → Prop} {t : Nat} (hlc : lc ≤ 8) (ht : t < 64) (hL : ∀ j, j < lc → ps_fc (L j)) (hp : post (nI (ps_mk (ps_ow L xe t) lc))) :
    ∀ d i, i + d = lc → wX_ownersLocks_4 post (nI t) (nI ml) (nI kw) (nI hw) (nI aw) (nI tc) (nI lc) (nI rc) xd xe (nI ck) (fun j => nI (T j)) (fun j => nI (L j)) aS (d + 1) (nI (ps_mk (ps_ow L xe t) i)) (nI i) := by
  intro d
  induction d with
  | zero =>
    intro i hi
    cases (show i = lc by omega)
    exact br_t (nI_le (Nat.le_refl _) (by omega)) hp
  | succ d ih =>
    intro i hi
    have n := ih (i + 1) (by omega)
    have l := hL i (by omega)
    obtain ⟨l1, l2, l3⟩ := l
    refine br_f (nI_ge (by omega) (by omega)) ⟨vp_in_nI (by omega) (by omega), ?_⟩
    rw [nI_clamp (by omega)]
    refine px_kind (by omega) ⟨vp_in_nI (by omega) (by omega), px_number (by omega) (pk_eq (L i / 64) 3 (fun h => ?_) (fun h => ?_))⟩
    · refine pk_lt t (L i % 64) (fun q => ?_) (fun q => ?_)
      · have e : ps_ow L xe t i = false := by
          rw [ps_ow, if_pos h]
          exact decide_eq_false (by omega)
        have g := px_ostep (ml := ml) (kw := kw) (hw := hw) (aw := aw) (tc := tc) (lc := lc) (rc := rc) (ck := ck) (xd := xd) (xe := xe) (T := T) (L := L) (aS := aS) (post := post) (x := nI t) (p := ps_ow L xe t) (i := i) (by omega) n
        rw [e] at g
        exact g
      · have e : ps_ow L xe t i = true := by
          rw [ps_ow, if_pos h]
          exact decide_eq_true q
        have g := px_ostep (ml := ml) (kw := kw) (hw := hw) (aw := aw) (tc := tc) (lc := lc) (rc := rc) (ck := ck) (xd := xd) (xe := xe) (T := T) (L := L) (aS := aS) (post := post) (x := nI t) (p := ps_ow L xe t) (i := i) (by omega) n
        rw [e] at g
        exact g
    · have e : ps_ow L xe t i = ps_hd xe (L i) := by rw [ps_ow, if_neg h]
      refine px_held l1 (by omega) (l3 (by omega)) ?_
      rw [← e]
      exact px_ostep (by omega) n
theorem px_owners {post : Int32 → Prop} {t : Nat} (hlc : lc ≤ 8) (ht : t < 64) (hL : ∀ j, j < lc → ps_fc (L j)) (hp : post (nI (ps_mk (ps_ow L xe t) lc))) : wpX_ownersLocks post (nI ml, nI kw, nI hw, nI aw, nI tc, nI lc, nI rc, xd, xe, nI ck, (fun j => nI (T j)), (fun j => nI (L j)), aS) (nI t) :=
  ⟨lc + 1, px_oloop hlc ht hL hp lc 0 (Nat.zero_add _)⟩
end
end
section
def ps_w (kw hw aw k : Nat) : Nat := if k = 1 then kw else if k = 2 then hw else aw
section
variable {ml kw hw aw tc lc rc ck : Nat} {xd xe : Int32} {T L : Nat → Nat} {aS : Nat → Int32}
theorem px_wk {post : Int32 → Prop} {k : Nat} (hk : k < 4) (hp : post (nI (ps_w kw hw aw k))) : wpX_weightOfKind post (nI ml, nI kw, nI hw, nI aw, nI tc, nI lc, nI rc, xd, xe, nI ck, (fun j => nI (T j)), (fun j => nI (L j)), aS) (nI k) := by
  refine pk_eq k 1 (fun h => ?_) (fun h => pk_eq k 2 (fun h2 => ?_) (fun h2 => ?_))
  · rw [ps_w, if_pos h] at hp
    exact hp
  · rw [ps_w, if_neg h, if_pos h2] at hp
    exact hp
  · rw [ps_w, if_neg h, if_neg h2] at hp
    exact hp
theorem px_wloop {post : Int32 → Prop} {s : Nat} (hlc : lc ≤ 8) (hs : s < 2 ^ 31) (hL : ∀ j, j < lc → ps_fc (L j)) (hp : post (nI (ps_wt (ps_w kw hw aw) L s lc))) :
    ∀ d i, i + d = lc → wX_weightOf_4 post (nI s) (nI ml) (nI kw) (nI hw) (nI aw) (nI tc) (nI lc) (nI rc) xd xe (nI ck) (fun j => nI (T j)) (fun j => nI (L j)) aS (d + 1) (nI (ps_wt (ps_w kw hw aw) L s i)) (nI i) := by
  intro d
  induction d with
  | zero =>
    intro i hi
    cases (show i = lc by omega)
    exact br_t (nI_le (Nat.le_refl _) (by omega)) hp
  | succ d ih =>
    intro i hi
    have n := ih (i + 1) (by omega)
    obtain ⟨l1, l2, l3⟩ := hL i (by omega)
    refine br_f (nI_ge (by omega) (by omega)) (px_contains hs (by omega) ?_)
    by_cases b : s / 2 ^ i % 2 = 1
    · rw [decide_eq_true b]
      refine br_f (by decide) ⟨vp_in_nI (by omega) (by omega), ?_⟩
      rw [nI_clamp (by omega)]
      refine px_kind (by omega) (px_wk (by omega) (nm_r (e' := nI (ps_wt (ps_w kw hw aw) L s (i + 1))) ?_ (nm_r (nI_1 i) n)))
      rw [nI_add]
      refine congrArg nI ?_
      show _ = ps_wt (ps_w kw hw aw) L s i + (if s / 2 ^ i % 2 = 1 then ps_w kw hw aw (L i / 64) else 0)
      rw [if_pos b]
    · rw [decide_eq_false b]
      have e : ps_wt (ps_w kw hw aw) L s (i + 1) = ps_wt (ps_w kw hw aw) L s i := by
        show ps_wt (ps_w kw hw aw) L s i + (if s / 2 ^ i % 2 = 1 then ps_w kw hw aw (L i / 64) else 0) = _
        rw [if_neg b]
        rfl
      rw [e] at n
      exact br_t (by decide) (nm_r (nI_1 i) n)
theorem px_weight {post : Int32 → Prop} {s : Nat} (hlc : lc ≤ 8) (hs : s < 2 ^ 31) (hL : ∀ j, j < lc → ps_fc (L j)) (hp : post (nI (ps_wt (ps_w kw hw aw) L s lc))) : wpX_weightOf post (nI ml, nI kw, nI hw, nI aw, nI tc, nI lc, nI rc, xd, xe, nI ck, (fun j => nI (T j)), (fun j => nI (L j)), aS) (nI s) :=
  ⟨lc + 1, px_wloop hlc hs hL hp lc 0 (Nat.zero_add _)⟩
theorem ps_w_le (h1 : kw ≤ 99) (h2 : hw ≤ 99) (h3 : aw ≤ 99) : ∀ k, ps_w kw hw aw k ≤ 99 := by
  intro k
  unfold ps_w
  split
  · exact h1
  · split
    · exact h2
    · exact h3
theorem px_better {post : Int32 → Prop} {s o : Nat} (hlc : lc ≤ 8) (hs : s < 2 ^ 31) (ho : o ≤ s) (hL : ∀ j, j < lc → ps_fc (L j)) (h1 : kw ≤ 99) (h2 : hw ≤ 99) (h3 : aw ≤ 99)
    (hp : post (ps_i (decide (ps_wt (ps_w kw hw aw) L s lc < ps_wt (ps_w kw hw aw) L o lc)))) : wpX_isBetter post (nI ml, nI kw, nI hw, nI aw, nI tc, nI lc, nI rc, xd, xe, nI ck, (fun j => nI (T j)), (fun j => nI (L j)), aS) (nI s) (nI o) := by
  unfold wpX_isBetter
  refine px_weight hlc hs hL (px_weight hlc (by omega) hL ?_)
  have b1 := ps_wt_le (L := L) (s := s) (ps_w_le h1 h2 h3) lc
  have b2 := ps_wt_le (L := L) (s := o) (ps_w_le h1 h2 h3) lc
  refine pk_lt _ _ (fun h => ?_) (fun h => ?_) rfl rfl (by omega) (by omega)
  · rw [decide_eq_true h] at hp
    exact hp
  · rw [decide_eq_false (by omega)] at hp
    exact br_c (fun _ => br_t (nI_le ho hs) hp) (fun _ => hp)
theorem px_bloop {post : Int32 → Prop} {f : Nat} (hok : ps_ok T tc) (hlk : ps_lk T tc ≤ 8) (htc : tc ≤ 15) (hlc : lc ≤ 8) (hL : ∀ j, j < lc → ps_fc (L j)) (h1 : kw ≤ 99) (h2 : hw ≤ 99) (h3 : aw ≤ 99)
    (hp : post (nI (ps_bs (fun s => ps_sb s f && ps_tr T tc s) (fun s => ps_wt (ps_w kw hw aw) L s lc) (2 ^ lc)))) :
    ∀ d i, 1 ≤ i → i + d = 2 ^ lc → wX_bestTrueSubset_4 post (nI f) (nI ml) (nI kw) (nI hw) (nI aw) (nI tc) (nI lc) (nI rc) xd xe (nI ck) (fun j => nI (T j)) (fun j => nI (L j)) aS (d + 1) (nI (ps_bs (fun s => ps_sb s f && ps_tr T tc s) (fun s => ps_wt (ps_w kw hw aw) L s lc) i)) (nI i) := by
  have h8 := ps_p8 hlc
  intro d
  induction d with
  | zero =>
    intro i h0 hi
    cases (show i = 2 ^ lc by omega)
    refine br_t ?_ hp
    rw [ps_one lc (by omega)]
    exact nI_le (Nat.le_refl _) (by omega)
  | succ d ih =>
    intro i h0 hi
    have n := ih (i + 1) (by omega) (by omega)
    refine br_f ?_ (px_subset ?_)
    · rw [ps_one lc (by omega)]
      exact nI_ge (by omega) (by omega)
    by_cases c1 : ps_sb i f = true
    · rw [c1]
      refine br_f (by decide) (px_true hok hlk htc (by omega) ?_)
      by_cases c2 : ps_tr T tc i = true
      · rw [c2]
        have g : (fun s => ps_sb s f && ps_tr T tc s) i = true := by
          show (ps_sb i f && ps_tr T tc i) = true
          rw [c1, c2]
          rfl
        have bi := ps_bs_in (fun s => ps_sb s f && ps_tr T tc s) (fun s => ps_wt (ps_w kw hw aw) L s lc) i
        refine br_f (by decide) (pk_eq _ 0 (fun z => ?_) (fun z => ?_) rfl rfl (by omega))
        · rw [ps_bsT g (Or.inl z)] at n
          exact nm_r (nI_1 i) n
        · refine px_better hlc (by omega) (by omega) hL h1 h2 h3 ?_
          by_cases c3 : ps_wt (ps_w kw hw aw) L i lc < ps_wt (ps_w kw hw aw) L (ps_bs (fun s => ps_sb s f && ps_tr T tc s) (fun s => ps_wt (ps_w kw hw aw) L s lc) i) lc
          · rw [decide_eq_true c3]
            rw [ps_bsT g (Or.inr c3)] at n
            exact br_f (by decide) (nm_r (nI_1 i) n)
          · rw [decide_eq_false c3]
            rw [ps_bsN z c3] at n
            exact br_t (by decide) (nm_r (nI_1 i) n)
      · rw [ps_nf c2]
        rw [ps_bsF (by show (ps_sb i f && ps_tr T tc i) = false; rw [ps_nf c2, Bool.and_false])] at n
        exact br_t (by decide) (nm_r (nI_1 i) n)
    · rw [ps_nf c1]
      rw [ps_bsF (by show (ps_sb i f && ps_tr T tc i) = false; rw [ps_nf c1, Bool.false_and])] at n
      exact br_t (by decide) (nm_r (nI_1 i) n)
theorem px_best {post : Int32 → Prop} {f : Nat} (hok : ps_ok T tc) (hlk : ps_lk T tc ≤ 8) (htc : tc ≤ 15) (hlc : lc ≤ 8) (hL : ∀ j, j < lc → ps_fc (L j)) (h1 : kw ≤ 99) (h2 : hw ≤ 99) (h3 : aw ≤ 99)
    (hp : post (nI (ps_bs (fun s => ps_sb s f && ps_tr T tc s) (fun s => ps_wt (ps_w kw hw aw) L s lc) (2 ^ lc)))) : wpX_bestTrueSubset post (nI ml, nI kw, nI hw, nI aw, nI tc, nI lc, nI rc, xd, xe, nI ck, (fun j => nI (T j)), (fun j => nI (L j)), aS) (nI f) := by
  have h8 := ps_p0 lc
  have z := px_bloop (ml := ml) (rc := rc) (ck := ck) (xd := xd) (xe := xe) (aS := aS) hok hlk htc hlc hL h1 h2 h3 hp (2 ^ lc - 1) 1 (Nat.le_refl 1) (by omega)
  rw [ps_bs1] at z
  exact ⟨_, z⟩
theorem px_take {post : Int32 → St2 → Prop} {s : Nat} (hlc : lc ≤ 8) (hs : s < 2 ^ 31) (hL : ∀ j, j < lc → ps_fc (L j))
    (h0 : s = 0 → post (-1) (nI ml, nI kw, nI hw, nI aw, nI tc, nI lc, nI rc, xd, xe, nI ck, (fun j => nI (T j)), (fun j => nI (L j)), aS))
    (hp : ¬ s = 0 → ∀ a : Nat → Int32, (∀ j, j < lc → a j = nI (ps_fs L s j)) → post (nI (ps_wt (ps_w kw hw aw) L s lc)) (nI ml, nI kw, nI hw, nI aw, nI tc, nI lc, nI rc, xd, xe, nI ck, (fun j => nI (T j)), (fun j => nI (L j)), a)) : wpX_takeAsWitness post (nI ml, nI kw, nI hw, nI aw, nI tc, nI lc, nI rc, xd, xe, nI ck, (fun j => nI (T j)), (fun j => nI (L j)), aS) (nI s) := by
  refine pk_eq s 0 (fun z => h0 z) (fun z => ?_)
  exact px_fill hlc hs (fun a ha => px_weight hlc hs hL (hp z a ha))
end
end
section
section
variable {ml kw hw aw tc lc rc ck : Nat} {xd xe : Int32} {T L : Nat → Nat} {aS : Nat → Int32}
theorem px_mloop {post : Int32 → Prop} {s : Nat} (hok : ps_ok T tc) (hlk : ps_lk T tc ≤ 8) (htc : tc ≤ 15) (hlc : lc ≤ 8) (hs : s < 256) (hp : post (ps_i (ps_mnA (ps_tr T tc) s lc))) :
    ∀ d i, i + d = lc → ps_mnA (ps_tr T tc) s i = true → wX_isMinimal_12 post (nI s) (nI ml) (nI kw) (nI hw) (nI aw) (nI tc) (nI lc) (nI rc) xd xe (nI ck) (fun j => nI (T j)) (fun j => nI (L j)) aS (d + 1) (nI i) := by
  intro d
  induction d with
  | zero =>
    intro i hi hm
    cases (show i = lc by omega)
    rw [hm] at hp
    exact br_t (nI_le (Nat.le_refl _) (by omega)) hp
  | succ d ih =>
    intro i hi hm
    have n := ih (i + 1) (by omega)
    have st : ps_mnA (ps_tr T tc) s (i + 1) = !(decide (s / 2 ^ i % 2 = 1) && ps_tr T tc (s - 2 ^ i)) := by
      show (ps_mnA (ps_tr T tc) s i && _) = _
      rw [hm, Bool.true_and]
    refine br_f (nI_ge (by omega) (by omega)) (px_contains (by omega) (by omega) ?_)
    by_cases b : s / 2 ^ i % 2 = 1
    · rw [decide_eq_true b] at st ⊢
      refine br_f (by decide) ?_
      rw [ps_clr s hs i (by omega) b]
      refine px_true hok hlk htc (Nat.lt_of_le_of_lt (Nat.sub_le _ _) hs) ?_
      by_cases c : ps_tr T tc (s - 2 ^ i) = true
      · rw [c] at st ⊢
        rw [ps_mnA_le st (show i + 1 ≤ lc by omega)] at hp
        exact br_f (by decide) hp
      · rw [ps_nf c] at st ⊢
        exact br_t (by decide) (nm_r (nI_1 i) (n st))
    · rw [decide_eq_false b] at st ⊢
      exact br_t (by decide) (nm_r (nI_1 i) (n st))
theorem px_min {post : Int32 → Prop} {s : Nat} (hok : ps_ok T tc) (hlk : ps_lk T tc ≤ 8) (htc : tc ≤ 15) (hlc : lc ≤ 8) (hs : s < 256) (hp : post (ps_i (ps_mn (ps_tr T tc) lc s))) : wpX_isMinimal post (nI ml, nI kw, nI hw, nI aw, nI tc, nI lc, nI rc, xd, xe, nI ck, (fun j => nI (T j)), (fun j => nI (L j)), aS) (nI s) := by
  unfold wpX_isMinimal
  refine px_true hok hlk htc hs ?_
  by_cases c : ps_tr T tc s = true
  · rw [ps_mn, c, Bool.true_and] at hp
    rw [c]
    exact br_f (by decide) ⟨lc + 1, px_mloop hok hlk htc hlc hs hp lc 0 (Nat.zero_add _) rfl⟩
  · rw [ps_mn, ps_nf c, Bool.false_and] at hp
    rw [ps_nf c]
    exact br_t (by decide) hp
def ps_gm (T : Nat → Nat) (tc lc f x s : Nat) : Bool := decide (¬ s = x) && (ps_sb s f && ps_mn (ps_tr T tc) lc s)
theorem px_nloop {post : Int32 → Prop} {f x : Nat} (hok : ps_ok T tc) (hlk : ps_lk T tc ≤ 8) (htc : tc ≤ 15) (hlc : lc ≤ 8) (hL : ∀ j, j < lc → ps_fc (L j)) (h1 : kw ≤ 99) (h2 : hw ≤ 99) (h3 : aw ≤ 99) (hx : x < 256)
    (hp : post (nI (ps_bs (ps_gm T tc lc f x) (fun s => ps_wt (ps_w kw hw aw) L s lc) (2 ^ lc)))) :
    ∀ d i, 1 ≤ i → i + d = 2 ^ lc → wX_bestMinimalSubset_5 post (nI f) (nI x) (nI ml) (nI kw) (nI hw) (nI aw) (nI tc) (nI lc) (nI rc) xd xe (nI ck) (fun j => nI (T j)) (fun j => nI (L j)) aS (d + 1) (nI (ps_bs (ps_gm T tc lc f x) (fun s => ps_wt (ps_w kw hw aw) L s lc) i)) (nI i) := by
  have h8 := ps_p8 hlc
  intro d
  induction d with
  | zero =>
    intro i h0 hi
    cases (show i = 2 ^ lc by omega)
    refine br_t ?_ hp
    rw [ps_one lc (by omega)]
    exact nI_le (Nat.le_refl _) (by omega)
  | succ d ih =>
    intro i h0 hi
    have n := ih (i + 1) (by omega) (by omega)
    refine br_f ?_ (pk_eq i x (fun e => ?_) (fun e => px_subset ?_))
    · rw [ps_one lc (by omega)]
      exact nI_ge (by omega) (by omega)
    · rw [ps_bsF (by rw [ps_gm, decide_eq_false (by omega), Bool.false_and])] at n
      exact nm_r (nI_1 i) n
    by_cases c1 : ps_sb i f = true
    · rw [c1]
      refine br_f (by decide) (px_min hok hlk htc hlc (by omega) ?_)
      by_cases c2 : ps_mn (ps_tr T tc) lc i = true
      · rw [c2]
        have g : ps_gm T tc lc f x i = true := by
          rw [ps_gm, c1, c2, decide_eq_true e]
          rfl
        have bi := ps_bs_in (ps_gm T tc lc f x) (fun s => ps_wt (ps_w kw hw aw) L s lc) i
        refine br_f (by decide) (pk_eq _ 0 (fun z => ?_) (fun z => ?_) rfl rfl (by omega))
        · rw [ps_bsT g (Or.inl z)] at n
          exact nm_r (nI_1 i) n
        · refine px_better hlc (by omega) (by omega) hL h1 h2 h3 ?_
          by_cases c3 : ps_wt (ps_w kw hw aw) L i lc < ps_wt (ps_w kw hw aw) L (ps_bs (ps_gm T tc lc f x) (fun s => ps_wt (ps_w kw hw aw) L s lc) i) lc
          · rw [decide_eq_true c3]
            rw [ps_bsT g (Or.inr c3)] at n
            exact br_f (by decide) (nm_r (nI_1 i) n)
          · rw [decide_eq_false c3]
            rw [ps_bsN z c3] at n
            exact br_t (by decide) (nm_r (nI_1 i) n)
      · rw [ps_nf c2]
        rw [ps_bsF (by rw [ps_gm, ps_nf c2, Bool.and_false, Bool.and_false])] at n
        exact br_t (by decide) (nm_r (nI_1 i) n)
    · rw [ps_nf c1]
      rw [ps_bsF (by rw [ps_gm, ps_nf c1, Bool.false_and, Bool.and_false])] at n
      exact br_t (by decide) (nm_r (nI_1 i) n)
theorem px_bestm {post : Int32 → Prop} {f x : Nat} (hok : ps_ok T tc) (hlk : ps_lk T tc ≤ 8) (htc : tc ≤ 15) (hlc : lc ≤ 8) (hL : ∀ j, j < lc → ps_fc (L j)) (h1 : kw ≤ 99) (h2 : hw ≤ 99) (h3 : aw ≤ 99) (hx : x < 256)
    (hp : post (nI (ps_bs (ps_gm T tc lc f x) (fun s => ps_wt (ps_w kw hw aw) L s lc) (2 ^ lc)))) : wpX_bestMinimalSubset post (nI ml, nI kw, nI hw, nI aw, nI tc, nI lc, nI rc, xd, xe, nI ck, (fun j => nI (T j)), (fun j => nI (L j)), aS) (nI f) (nI x) := by
  have h8 := ps_p0 lc
  have z := px_nloop (ml := ml) (rc := rc) (ck := ck) (xd := xd) (xe := xe) (aS := aS) hok hlk htc hlc hL h1 h2 h3 hx hp (2 ^ lc - 1) 1 (Nat.le_refl 1) (by omega)
  rw [ps_bs1] at z
  exact ⟨_, z⟩
end
end
section
def ps_in (S : Nat → Nat) (c i : Nat) : Bool := decide (S i = c)
def ps_on (L S : Nat → Nat) (ck lc i : Nat) : Bool := if L i / 64 = 1 then ps_ex (ps_in S (L i)) lc else if L i / 64 = 2 then true else decide (L i % 64 ≤ ck)
def ps_fl (S : Nat → Nat) (i : Nat) : Bool := decide (¬ S i = 0)
def ps_ft (L S : Nat → Nat) (ck i : Nat) : Bool := decide (S i = L i) && (decide (¬ L i / 64 = 3) || decide (L i % 64 ≤ ck))
section
variable {ml kw hw aw tc lc rc ck : Nat} {xd xe : Int32} {T L S : Nat → Nat} {aS : Nat → Int32}
theorem px_sloop {post : Int32 → Prop} {c : Nat} (hlc : lc ≤ 8) (hS : ∀ j, j < lc → aS j = nI (S j)) (hb : ∀ j, j < lc → S j < 256) (hc : c < 256) (hp : post (ps_i (ps_ex (ps_in S c) lc))) :
    ∀ d i, i + d = lc → ps_ex (ps_in S c) i = false → wX_isInSomeSlot_2 post (nI c) (nI ml) (nI kw) (nI hw) (nI aw) (nI tc) (nI lc) (nI rc) xd xe (nI ck) (fun j => nI (T j)) (fun j => nI (L j)) aS (d + 1) (nI i) := by
  intro d
  induction d with
  | zero =>
    intro i hi hm
    cases (show i = lc by omega)
    rw [hm] at hp
    exact br_t (nI_le (Nat.le_refl _) (by omega)) hp
  | succ d ih =>
    intro i hi hm
    have b := hb i (by omega)
    refine br_f (nI_ge (by omega) (by omega)) ⟨vp_in_nI (by omega) (by omega), ?_⟩
    rw [nI_clamp (by omega), hS i (by omega)]
    refine pk_eq (S i) c (fun h => ?_) (fun h => ?_)
    · rw [ps_ex_le (ps_exT (p := ps_in S c) (m := i) (decide_eq_true h)) (show i + 1 ≤ lc by omega)] at hp
      exact hp
    · refine nm_r (nI_1 i) (ih (i + 1) (by omega) ?_)
      rw [ps_exF (p := ps_in S c) (decide_eq_false h)]
      exact hm
theorem px_some {post : Int32 → Prop} {c : Nat} (hlc : lc ≤ 8) (hS : ∀ j, j < lc → aS j = nI (S j)) (hb : ∀ j, j < lc → S j < 256) (hc : c < 256) (hp : post (ps_i (ps_ex (ps_in S c) lc))) : wpX_isInSomeSlot post (nI ml, nI kw, nI hw, nI aw, nI tc, nI lc, nI rc, xd, xe, nI ck, (fun j => nI (T j)), (fun j => nI (L j)), aS) (nI c) :=
  ⟨lc + 1, px_sloop hlc hS hb hc hp lc 0 (Nat.zero_add _) rfl⟩
theorem px_onh {post : Int32 → Prop} {i : Nat} (hlc : lc ≤ 8) (hck : ck < 64) (hS : ∀ j, j < lc → aS j = nI (S j)) (hb : ∀ j, j < lc → S j < 256) (hl : ps_fc (L i)) (hp : post (ps_i (ps_on L S ck lc i))) : wpX_onlookerHas post (nI ml, nI kw, nI hw, nI aw, nI tc, nI lc, nI rc, xd, xe, nI ck, (fun j => nI (T j)), (fun j => nI (L j)), aS) (nI (L i)) := by
  obtain ⟨l1, l2, l3⟩ := hl
  unfold wpX_onlookerHas
  refine px_kind (by omega) (pk_eq (L i / 64) 1 (fun h => ?_) (fun h => ?_))
  · rw [ps_on, if_pos h] at hp
    exact px_some hlc hS hb l2 ⟨ps_nb _, hp⟩
  · rw [ps_on, if_neg h] at hp
    refine pk_eq (L i / 64) 2 (fun h2 => ?_) (fun h2 => ?_)
    · rw [if_pos h2] at hp
      exact hp
    · rw [if_neg h2] at hp
      refine px_number (by omega) (pk_lt ck (L i % 64) (fun q => ?_) (fun q => ?_))
      · rw [decide_eq_false (by omega)] at hp
        exact hp
      · rw [decide_eq_true q] at hp
        exact hp
theorem px_lloop {post : Int32 → Prop} (hlc : lc ≤ 8) (hck : ck < 64) (hS : ∀ j, j < lc → aS j = nI (S j)) (hb : ∀ j, j < lc → S j < 256) (hL : ∀ j, j < lc → ps_fc (L j)) (hp : post (nI (ps_mk (ps_on L S ck lc) lc))) :
    ∀ d i, i + d = lc → wX_onlookersLocks_4 post (nI ml) (nI kw) (nI hw) (nI aw) (nI tc) (nI lc) (nI rc) xd xe (nI ck) (fun j => nI (T j)) (fun j => nI (L j)) aS (d + 1) (nI (ps_mk (ps_on L S ck lc) i)) (nI i) := by
  intro d
  induction d with
  | zero =>
    intro i hi
    cases (show i = lc by omega)
    exact br_t (nI_le (Nat.le_refl _) (by omega)) hp
  | succ d ih =>
    intro i hi
    have n := ih (i + 1) (by omega)
    refine br_f (nI_ge (by omega) (by omega)) ⟨vp_in_nI (by omega) (by omega), ?_⟩
    rw [nI_clamp (by omega)]
    refine px_onh hlc hck hS hb (hL i (by omega)) (ek_if (ps_i0 _) (fun h => ?_) (fun h => ?_))
    · rw [ps_mkF h] at n
      exact nm_r (nI_1 i) n
    · rw [ps_mkT (ps_nt h)] at n
      exact nm_r (px_set (by omega)) (nm_r (nI_1 i) n)
theorem px_onlook {post : Int32 → Prop} (hlc : lc ≤ 8) (hck : ck < 64) (hS : ∀ j, j < lc → aS j = nI (S j)) (hb : ∀ j, j < lc → S j < 256) (hL : ∀ j, j < lc → ps_fc (L j)) (hp : post (nI (ps_mk (ps_on L S ck lc) lc))) : wpX_onlookersLocks post (nI ml, nI kw, nI hw, nI aw, nI tc, nI lc, nI rc, xd, xe, nI ck, (fun j => nI (T j)), (fun j => nI (L j)), aS) :=
  ⟨lc + 1, px_lloop hlc hck hS hb hL hp lc 0 (Nat.zero_add _)⟩
theorem px_iloop {post : Int32 → Prop} (hlc : lc ≤ 8) (hS : ∀ j, j < lc → aS j = nI (S j)) (hb : ∀ j, j < lc → S j < 256) (hp : post (nI (ps_mk (ps_fl S) lc))) :
    ∀ d i, i + d = lc → wX_filledLocks_4 post (nI ml) (nI kw) (nI hw) (nI aw) (nI tc) (nI lc) (nI rc) xd xe (nI ck) (fun j => nI (T j)) (fun j => nI (L j)) aS (d + 1) (nI (ps_mk (ps_fl S) i)) (nI i) := by
  intro d
  induction d with
  | zero =>
    intro i hi
    cases (show i = lc by omega)
    exact br_t (nI_le (Nat.le_refl _) (by omega)) hp
  | succ d ih =>
    intro i hi
    have n := ih (i + 1) (by omega)
    have b := hb i (by omega)
    refine br_f (nI_ge (by omega) (by omega)) ⟨vp_in_nI (by omega) (by omega), ?_⟩
    rw [nI_clamp (by omega), hS i (by omega)]
    refine pk_eq (S i) 0 (fun h => ?_) (fun h => ?_)
    · rw [ps_mkF (p := ps_fl S) (decide_eq_false (not_not_intro h))] at n
      exact nm_r (nI_1 i) n
    · rw [ps_mkT (p := ps_fl S) (decide_eq_true h)] at n
      exact nm_r (px_set (by omega)) (nm_r (nI_1 i) n)
theorem px_filled {post : Int32 → Prop} (hlc : lc ≤ 8) (hS : ∀ j, j < lc → aS j = nI (S j)) (hb : ∀ j, j < lc → S j < 256) (hp : post (nI (ps_mk (ps_fl S) lc))) : wpX_filledLocks post (nI ml, nI kw, nI hw, nI aw, nI tc, nI lc, nI rc, xd, xe, nI ck, (fun j => nI (T j)), (fun j => nI (L j)), aS) :=
  ⟨lc + 1, px_iloop hlc hS hb hp lc 0 (Nat.zero_add _)⟩
theorem px_fits {post : Int32 → Prop} {i : Nat} (hi : i < lc) (hlc : lc ≤ 8) (hck : ck < 64) (hS : aS i = nI (S i)) (hb : S i < 256) (hl : ps_fc (L i)) (hp : post (ps_i (ps_ft L S ck i))) : wpX_lockFits post (nI ml, nI kw, nI hw, nI aw, nI tc, nI lc, nI rc, xd, xe, nI ck, (fun j => nI (T j)), (fun j => nI (L j)), aS) (nI i) := by
  obtain ⟨l1, l2, l3⟩ := hl
  refine ⟨vp_in_nI (by omega) (by omega), nm_r (e' := nI (L i)) (congrArg (fun j => nI (L j)) (nI_clamp (by omega))) ⟨vp_in_nI (by omega) (by omega), ?_⟩⟩
  rw [nI_clamp (by omega), hS]
  refine pk_eq (S i) (L i) (fun h => ?_) (fun h => ?_)
  · rw [ps_ft, decide_eq_true h, Bool.true_and] at hp
    refine px_kind (by omega) (pk_eq (L i / 64) 3 (fun h2 => ?_) (fun h2 => ?_))
    · rw [decide_eq_false (not_not_intro h2), Bool.false_or] at hp
      refine px_number (by omega) (pk_lt ck (L i % 64) (fun q => ?_) (fun q => ?_))
      · rw [decide_eq_false (by omega)] at hp
        exact hp
      · rw [decide_eq_true q] at hp
        exact hp
    · rw [decide_eq_true h2, Bool.true_or] at hp
      exact hp
  · rw [ps_ft, decide_eq_false h, Bool.false_and] at hp
    exact hp
def ps_wr (L S : Nat → Nat) (ck i : Nat) : Bool := ps_fl S i && !ps_ft L S ck i
theorem px_aloop {post : Int32 → Prop} {s : Nat} (hlc : lc ≤ 8) (hs : s < 256) (hbit : ∀ j, j < lc → s / 2 ^ j % 2 = (if ps_fl S j = true then 1 else 0)) (hck : ck < 64) (hS : ∀ j, j < lc → aS j = nI (S j)) (hb : ∀ j, j < lc → S j < 256) (hL : ∀ j, j < lc → ps_fc (L j)) (hp : post (ps_i (!ps_ex (ps_wr L S ck) lc))) :
    ∀ d i, i + d = lc → ps_ex (ps_wr L S ck) i = false → wX_allFit_2 post (nI s) (nI ml) (nI kw) (nI hw) (nI aw) (nI tc) (nI lc) (nI rc) xd xe (nI ck) (fun j => nI (T j)) (fun j => nI (L j)) aS (d + 1) (nI i) := by
  intro d
  induction d with
  | zero =>
    intro i hi hm
    cases (show i = lc by omega)
    rw [hm] at hp
    exact br_t (nI_le (Nat.le_refl _) (by omega)) hp
  | succ d ih =>
    intro i hi hm
    have bi := hbit i (by omega)
    refine br_f (nI_ge (by omega) (by omega)) (px_contains (by omega) (by omega) ?_)
    by_cases f : ps_fl S i = true
    · rw [if_pos f] at bi
      rw [decide_eq_true bi]
      refine br_f (by decide) (px_fits (by omega) hlc hck (hS i (by omega)) (hb i (by omega)) (hL i (by omega)) ?_)
      refine ek_if (ps_i0 _) (fun h => ?_) (fun h => ?_)
      · rw [ps_ex_le (ps_exT (p := ps_wr L S ck) (m := i) (by rw [ps_wr, f, h]; rfl)) (show i + 1 ≤ lc by omega)] at hp
        exact hp
      · refine nm_r (nI_1 i) (ih (i + 1) (by omega) ?_)
        rw [ps_exF (by rw [ps_wr, f, ps_nt h]; rfl)]
        exact hm
    · rw [if_neg f] at bi
      rw [decide_eq_false (by omega)]
      refine br_t (by decide) (nm_r (nI_1 i) (ih (i + 1) (by omega) ?_))
      rw [ps_exF (by rw [ps_wr, ps_nf f]; rfl)]
      exact hm
theorem px_allfit {post : Int32 → Prop} (hlc : lc ≤ 8) (hck : ck < 64) (hS : ∀ j, j < lc → aS j = nI (S j)) (hb : ∀ j, j < lc → S j < 256) (hL : ∀ j, j < lc → ps_fc (L j)) (hp : post (ps_i (!ps_ex (ps_wr L S ck) lc))) : wpX_allFit post (nI ml, nI kw, nI hw, nI aw, nI tc, nI lc, nI rc, xd, xe, nI ck, (fun j => nI (T j)), (fun j => nI (L j)), aS) (nI (ps_mk (ps_fl S) lc)) :=
  ⟨lc + 1, px_aloop hlc (Nat.lt_of_lt_of_le (ps_mk_lt _ _) (ps_p8 hlc)) (fun j hj => ps_mk_b lc hj) hck hS hb hL hp lc 0 (Nat.zero_add _) rfl⟩
def ps_sp (T L S : Nat → Nat) (tc lc ck : Nat) : Nat :=
  if ps_ex (ps_wr L S ck) lc = true then 2 else if ps_tr T tc (ps_mk (ps_fl S) lc) = true then (if ps_mn (ps_tr T tc) lc (ps_mk (ps_fl S) lc) = true then 1 else 4) else 3
theorem px_spend {post : Int32 → Prop} (hd : ¬ xd = 0) (hok : ps_ok T tc) (hlk : ps_lk T tc ≤ 8) (htc : tc ≤ 15) (hlc : lc ≤ 8) (hck : ck < 64) (hS : ∀ j, j < lc → aS j = nI (S j)) (hb : ∀ j, j < lc → S j < 256) (hL : ∀ j, j < lc → ps_fc (L j))
    (hp : post (nI (ps_sp T L S tc lc ck))) : wpX_spend post (nI ml, nI kw, nI hw, nI aw, nI tc, nI lc, nI rc, xd, xe, nI ck, (fun j => nI (T j)), (fun j => nI (L j)), aS) := by
  have h8 : ps_mk (ps_fl S) lc < 256 := Nat.lt_of_lt_of_le (ps_mk_lt _ _) (ps_p8 hlc)
  refine br_f hd (px_filled hlc hS hb (px_allfit hlc hck hS hb hL ?_))
  by_cases c1 : ps_ex (ps_wr L S ck) lc = true
  · rw [ps_sp, if_pos c1] at hp
    rw [c1]
    exact br_t (by decide) hp
  · rw [ps_sp, if_neg c1] at hp
    rw [ps_nf c1]
    refine br_f (by decide) (px_true hok hlk htc h8 ?_)
    by_cases c2 : ps_tr T tc (ps_mk (ps_fl S) lc) = true
    · rw [if_pos c2] at hp
      rw [c2]
      refine br_f (by decide) (px_min hok hlk htc hlc h8 ?_)
      by_cases c3 : ps_mn (ps_tr T tc) lc (ps_mk (ps_fl S) lc) = true
      · rw [if_pos c3] at hp
        rw [c3]
        exact br_f (by decide) hp
      · rw [if_neg c3] at hp
        rw [ps_nf c3]
        exact br_t (by decide) hp
    · rw [if_neg c2] at hp
      rw [ps_nf c2]
      exact br_t (by decide) hp
theorem px_eloop {post : Int32 → Prop} (hok : ps_ok T tc) (hlk : ps_lk T tc ≤ 8) (htc : tc ≤ 15) (hlc : lc ≤ 8) (hL : ∀ j, j < lc → ps_fc (L j)) :
    ∀ d t, t + d = 64 → post (ps_er (fun t => ps_tr T tc (ps_mk (ps_ow L xe t) lc)) d t) → wX_earliest_12 post (nI ml) (nI kw) (nI hw) (nI aw) (nI tc) (nI lc) (nI rc) xd xe (nI ck) (fun j => nI (T j)) (fun j => nI (L j)) aS (d + 1) (nI t) := by
  intro d
  induction d with
  | zero =>
    intro t ht hp
    exact br_t (nI_lt (a := 63) (by omega) (by omega)) hp
  | succ d ih =>
    intro t ht hp
    refine br_f (nI_nlt (b := t) (a := 63) (by omega) (by decide)) (px_owners hlc (by omega) hL (px_true hok hlk htc (Nat.lt_of_lt_of_le (ps_mk_lt _ _) (ps_p8 hlc)) ?_))
    by_cases c : ps_tr T tc (ps_mk (ps_ow L xe t) lc) = true
    · rw [ps_erT (P := fun t => ps_tr T tc (ps_mk (ps_ow L xe t) lc)) c] at hp
      rw [c]
      exact br_f (by decide) hp
    · rw [ps_erF (P := fun t => ps_tr T tc (ps_mk (ps_ow L xe t) lc)) (ps_nf c)] at hp
      rw [ps_nf c]
      exact br_t (by decide) (nm_r (nI_1 t) (ih (t + 1) (by omega) hp))
end
end
section
def ps_up (T : Nat → Nat) (k c : Nat) : Nat → Nat := fun j => if j = k then c else T j
theorem ps_up_s {T : Nat → Nat} {k c : Nat} : ps_up T k c k = c := if_pos rfl
theorem ps_up_n {T : Nat → Nat} {k c j : Nat} (h : ¬ j = k) : ps_up T k c j = T j := if_neg h
theorem px_upd {T : Nat → Nat} {k c : Nat} (hk : k < 2 ^ 31) : upd (fun j => nI (T j)) (nI k).toNatClampNeg (nI c) = fun j => nI (ps_up T k c j) := by
  rw [nI_clamp hk]
  funext j
  show (if j = k then nI c else nI (T j)) = nI (if j = k then c else T j)
  split <;> rfl
theorem ps_ok_up {T : Nat → Nat} {tc c : Nat} (h : ps_ok T tc) (hc : c < 320) (hj : 256 ≤ c → (c - 256) % 8 + 1 ≤ ps_dp T tc) : ps_ok (ps_up T tc c) (tc + 1) := by
  intro i hi
  have e : ∀ j, j < i → ps_up T tc c j = T j := fun j hj => ps_up_n (by omega)
  rw [ps_dp_c i e]
  by_cases z : i = tc
  · subst z
    rw [ps_up_s]
    exact ⟨hc, hj⟩
  · rw [ps_up_n z]
    exact h i (by omega)
theorem ps_dp_up {T : Nat → Nat} {tc c : Nat} : ps_dp (ps_up T tc c) (tc + 1) = if c < 256 then ps_dp T tc + 1 else ps_dp T tc - (c - 256) % 8 := by
  show (if ps_up T tc c tc < 256 then ps_dp (ps_up T tc c) tc + 1 else ps_dp (ps_up T tc c) tc - (ps_up T tc c tc - 256) % 8) = _
  rw [ps_up_s, ps_dp_c tc (fun j hj => ps_up_n (by omega))]
theorem ps_lk_up {T : Nat → Nat} {tc c : Nat} : ps_lk (ps_up T tc c) (tc + 1) = if c < 256 then ps_lk T tc + 1 else ps_lk T tc := by
  show (if ps_up T tc c tc < 256 then ps_lk (ps_up T tc c) tc + 1 else ps_lk (ps_up T tc c) tc) = _
  rw [ps_up_s, ps_lk_c tc (fun j hj => ps_up_n (by omega))]
theorem px_cd (c : Nat) : nI (c / 64) * 64 + nI (c % 64) = nI c := by
  have e : nI (c / 64) * 64 = nI (c / 64 * 64) := pk_mul _ 64
  rw [e, nI_add, show c / 64 * 64 + c % 64 = c by omega]
theorem px_code {post : Int32 → Prop} {c : Nat} (hp : post (nI c)) : wpX_codeOf post () (nI (c / 64)) (nI (c % 64)) := ek_v (P := post) (px_cd c) hp
theorem ps_hd_flip {e : Int32} {c c' : Nat} (a : 64 ≤ c) (b : c < 192) (d : c % 64 < 8) (a' : 64 ≤ c') (b' : c' < 192) (d' : c' % 64 < 8) :
    ps_hd (e ^^^ ((1 : Int32) <<< (nI ((c / 64 - 1) * 8 + c % 64) &&& 31))) c' = (ps_hd e c' ^^ decide (c' = c)) := by
  unfold ps_hd
  rw [b_xor, ps_1sh _ (by omega) _ (by omega)]
  refine congrArg _ ?_
  by_cases h : c' = c
  · rw [decide_eq_true h, decide_eq_true (by omega)]
  · rw [decide_eq_false h, decide_eq_false (by omega)]
section
variable {ml kw hw aw tc lc rc ck : Nat} {xd xe : Int32} {T L : Nat → Nat} {aS : Nat → Int32}
theorem px_append {post : St2 → Prop} {c : Nat} (h : tc < 15) (hp : post (nI ml, nI kw, nI hw, nI aw, nI (tc + 1), nI lc, nI rc, xd, xe, nI ck, (fun j => nI (ps_up T tc c j)), (fun j => nI (L j)), aS)) : wpX_appendToken post (nI ml, nI kw, nI hw, nI aw, nI tc, nI lc, nI rc, xd, xe, nI ck, (fun j => nI (T j)), (fun j => nI (L j)), aS) (nI c) :=
  br_f (nI_ge (b := 15) h (by decide)) ⟨vp_in_nI h (by decide), nm_r (px_upd (by omega)) (nm_r (nI_1 tc) hp)⟩
end
end
section
def ps_pk (T : Nat → Nat) (b lo : Nat) : Nat → Nat
  | 0 => 0
  | c + 1 => ps_pk T b lo c + T (lo + c) * 2 ^ (b * c)
theorem ps_pk_s {T : Nat → Nat} {b lo c : Nat} : ps_pk T b lo (c + 1) = ps_pk T b lo c + T (lo + c) * 2 ^ (b * c) := rfl
theorem ps_pk_lt {T : Nat → Nat} {b lo : Nat} : ∀ c, (∀ j, j < c → T (lo + j) < 2 ^ b) → ps_pk T b lo c < 2 ^ (b * c) := by
  intro c
  induction c with
  | zero => exact fun _ => Nat.one_pos
  | succ c ih =>
    intro h
    have r := ih (fun j hj => h j (by omega))
    have t := h c (by omega)
    rw [ps_pk_s, Nat.mul_succ, Nat.pow_add, Nat.mul_comm (2 ^ (b * c))]
    have m : (T (lo + c) + 1) * 2 ^ (b * c) ≤ 2 ^ b * 2 ^ (b * c) := Nat.mul_le_mul_right _ t
    rw [Nat.add_mul, Nat.one_mul] at m
    omega
theorem ps_pk_c {T T' : Nat → Nat} {b lo : Nat} : ∀ c, (∀ j, j < c → T' (lo + j) = T (lo + j)) → ps_pk T' b lo c = ps_pk T b lo c := by
  intro c
  induction c with
  | zero => exact fun _ => rfl
  | succ c ih =>
    intro h
    rw [ps_pk_s, ps_pk_s, ih (fun j hj => h j (by omega)), h c (by omega)]
theorem ps_pk_g {T : Nat → Nat} {b lo j : Nat} : ∀ c, j < c → (∀ j, j < c → T (lo + j) < 2 ^ b) → ps_pk T b lo c / 2 ^ (b * j) % 2 ^ b = T (lo + j) := by
  intro c
  induction c with
  | zero => intro h; omega
  | succ c ih =>
    intro hj h
    have h' : ∀ j, j < c → T (lo + j) < 2 ^ b := fun j hj => h j (by omega)
    rw [ps_pk_s]
    by_cases e : j = c
    · subst e
      rw [Nat.add_mul_div_right _ _ (ps_p0 _), Nat.div_eq_of_lt (ps_pk_lt j h'), Nat.zero_add, Nat.mod_eq_of_lt (h j (by omega))]
    · obtain ⟨d, rfl⟩ : ∃ d, c = j + (1 + d) := ⟨c - j - 1, by omega⟩
      rw [show b * (j + (1 + d)) = b * j + (b + b * d) by rw [Nat.mul_add, Nat.mul_add, Nat.mul_one], Nat.pow_add 2 (b * j), Nat.pow_add 2 b, ← Nat.mul_assoc, Nat.mul_comm _ (2 ^ (b * j)), Nat.mul_assoc, Nat.add_mul_div_left _ _ (ps_p0 _), ← Nat.mul_assoc, Nat.mul_comm _ (2 ^ b), Nat.mul_assoc, Nat.add_mul_mod_self_left]
      exact ih (by omega) h'
def ps_pt (T : Nat → Nat) (tc p : Nat) : Nat := ps_pk T 9 (7 * p) (min (tc - 7 * p) 7)
theorem ps_pt_put {T : Nat → Nat} {tc p c : Nat} (h : tc / 7 = p) : ps_pt (ps_up T tc c) (tc + 1) p = ps_pt T tc p + c * 2 ^ (9 * (tc % 7)) := by
  unfold ps_pt
  rw [show min (tc + 1 - 7 * p) 7 = tc % 7 + 1 by omega, show min (tc - 7 * p) 7 = tc % 7 by omega, ps_pk_s, show 7 * p + tc % 7 = tc by omega, ps_up_s]
  rw [ps_pk_c (T := T) (tc % 7) (fun j hj => ps_up_n (by omega))]
theorem ps_pt_keep {T : Nat → Nat} {tc p c : Nat} (h : ¬ tc / 7 = p) : ps_pt (ps_up T tc c) (tc + 1) p = ps_pt T tc p := by
  unfold ps_pt
  rw [show min (tc + 1 - 7 * p) 7 = min (tc - 7 * p) 7 by omega]
  exact ps_pk_c _ (fun j hj => ps_up_n (by omega))
theorem ps_pt_lt {T : Nat → Nat} {tc p : Nat} (hT : ∀ j, j < tc → T j < 512) : ps_pt T tc p < 2 ^ (9 * min (tc - 7 * p) 7) :=
  ps_pk_lt _ (fun j hj => hT _ (by omega))
theorem ps_pw {a b : Nat} (h : a ≤ b) : 2 ^ a ≤ 2 ^ b := Nat.pow_le_pow_right (by decide) h
theorem ps_pt_64 {T : Nat → Nat} {tc p : Nat} (hT : ∀ j, j < tc → T j < 512) : ps_pt T tc p < 2 ^ 64 :=
  Nat.lt_of_lt_of_le (ps_pt_lt hT) (ps_pw (by omega))
theorem ps_pt_g {T : Nat → Nat} {tc i p : Nat} (hT : ∀ j, j < tc → T j < 512) (hi : i < tc) (hp : i / 7 = p) : ps_pt T tc p / 2 ^ (9 * (i % 7)) % 512 = T i := by
  have e := ps_pk_g (T := T) (b := 9) (lo := 7 * p) (j := i % 7) (min (tc - 7 * p) 7) (by omega) (fun j hj => hT _ (by omega))
  rw [show 7 * p + i % 7 = i by omega] at e
  exact e
theorem pl_and (x : Nat) (k : Nat) {m : Int32} (hk : k ≤ 30) (hm : m.toBitVec.toNat = 2 ^ k - 1) : nI x &&& m = nI (x % 2 ^ k) := by
  rw [pk_and _ k hm]
  refine congrArg nI ?_
  show (x % 2 ^ 32) % 2 ^ k = _
  exact Nat.mod_mod_of_dvd x (Nat.pow_dvd_pow 2 (by omega))
theorem pl_div7 {a : Nat} (h : a < 2 ^ 31) : nI a / 7 = nI (a / 7) := pk_div (d := 7) h (by decide) (by decide)
theorem pl_rem7 {a : Nat} (h : a < 2 ^ 31) : nI a - nI a / 7 * 7 = nI (a % 7) := pk_rem (d := 7) h (by decide) (by decide)
theorem pl_put {post : Int64 → Prop} {T : Nat → Nat} {tc p c : Nat} (htc : tc < 21) (hp3 : p < 3) (hT : ∀ j, j < tc → T j < 512) (hc : c < 512) (hp : post (lN (ps_pt (ps_up T tc c) (tc + 1) p))) : wpL_put post () (lN (ps_pt T tc p)) (nI p) (nI tc) (nI c) := by
  have hT' : ∀ j, j < tc + 1 → ps_up T tc c j < 512 := by
    intro j hj
    by_cases e : j = tc
    · rw [e, ps_up_s]
      exact hc
    · rw [ps_up_n e]
      exact hT j (by omega)
  have e9 : (9 : Int32) * nI (tc % 7) = nI (9 * (tc % 7)) := pk_mul 9 _
  refine ⟨by decide, ?_⟩
  rw [pl_rem7 (by omega), pl_div7 (by omega), e9, nI_l (by omega), wb_shl _ (by omega)]
  refine pk_eq (tc / 7) p (fun h => ⟨by decide, ?_⟩) (fun h => ?_)
  · have q := ps_pt_64 (p := p) hT'
    rw [ps_pt_put h] at hp q
    have a := ps_pt_lt (p := p) hT
    rw [show min (tc - 7 * p) 7 = tc % 7 by omega] at a
    rw [g_or' (k := 9 * (tc % 7)) rfl a q]
    exact hp
  · rw [ps_pt_keep h] at hp
    exact hp
theorem pl_code {post : Int32 → Prop} {L : Nat → Nat} {n i : Nat} (hn : n ≤ 8) (hi : i < n) (hL : ∀ j, j < n → L j < 256) (hp : post (nI (L i))) : wpL_lockCode post () (lN (ps_pk L 8 0 n)) (nI i) := by
  have e8 : (8 : Int32) * nI i = nI (8 * i) := pk_mul 8 _
  have hL' : ∀ j, j < n → L (0 + j) < 2 ^ 8 := fun j hj => by rw [Nat.zero_add]; exact hL j hj
  have q := Nat.lt_of_lt_of_le (ps_pk_lt (b := 8) (lo := 0) n hL') (ps_pw (show 8 * n ≤ 64 by omega))
  have g := ps_pk_g (b := 8) (lo := 0) (j := i) n hi hL'
  rw [Nat.zero_add] at g
  refine ek_v (P := post) ?_ hp
  rw [e8, wb_shr q (by omega), lN_i, pl_and _ 8 (by decide) (by decide), g]
theorem pl_codes {L : Nat → Nat} {i c : Nat} (hi : i < 8) (hL : ∀ j, j < i → L j < 256) (hc : c < 256) : lN (ps_pk L 8 0 i) ||| ((nI c).toInt64 <<< ((8 * nI i).toInt64 &&& 63)) = lN (ps_pk (ps_up L i c) 8 0 (i + 1)) := by
  have e8 : (8 : Int32) * nI i = nI (8 * i) := pk_mul 8 _
  have e : ps_pk (ps_up L i c) 8 0 (i + 1) = ps_pk L 8 0 i + c * 2 ^ (8 * i) := by
    rw [ps_pk_s, ps_pk_c (T := L) i (fun j hj => ps_up_n (by omega)), Nat.zero_add, ps_up_s]
  have a := ps_pk_lt (T := L) (b := 8) (lo := 0) i (fun j hj => by rw [Nat.zero_add]; exact hL j hj)
  have b := ps_pk_lt (T := ps_up L i c) (b := 8) (lo := 0) (i + 1) (fun j hj => by
    rw [Nat.zero_add]
    by_cases z : j = i
    · rw [z, ps_up_s]
      exact hc
    · rw [ps_up_n z]
      exact hL j (by omega))
  have q := Nat.lt_of_lt_of_le b (ps_pw (show 8 * (i + 1) ≤ 64 by omega))
  rw [e] at q ⊢
  rw [e8, nI_l (by omega), wb_shl _ (by omega), g_or' (k := 8 * i) rfl a q]
theorem pl_jloop {post : Int32 → Prop} {J : Int32 → Int32 → Int32 → Prop} {x0 x2 x4 : Int64} {x6 x7 x9 : Int32} {R n k i : Nat} (hR : R < 512) (hn : n ≤ 8) (hk : k ≤ 8)
    (hp : J (nI (2 * (R / 2 ^ n) + (if k ≤ ps_cnt R n then 1 else 0))) x9 (nI (i + 1))) :
    ∀ d j, j + d = n → wL_eval_120 post J x0 x2 x4 x6 x7 (nI R) x9 (nI i) (nI k) (nI n) (d + 1) (nI (ps_cnt R j)) (nI j) := by
  intro d
  induction d with
  | zero =>
    intro j hj
    cases (show j = n by omega)
    have hc := ps_cnt_le R n
    refine br_t (nI_le (Nat.le_refl _) (by omega)) (pk_lt (ps_cnt R n) k (fun h => ?_) (fun h => ?_))
    · rw [if_neg (by omega)] at hp
      exact nm_r (px_jv (b := 0) hR hn (by decide)) (nm_r (nI_1 i) hp)
    · rw [if_pos h] at hp
      exact nm_r (px_jv (b := 1) hR hn (by decide)) (nm_r (nI_1 i) hp)
  | succ d ih =>
    intro j hj
    refine br_f (nI_ge (by omega) (by omega)) (nm_r (e' := nI (ps_cnt R (j + 1))) ?_ (nm_r (nI_1 j) (ih (j + 1) (by omega))))
    rw [ps_bit (by omega) (by omega), nI_add]
    rfl
theorem pl_tok {post : Int32 → Prop} {J : Int32 → Int32 → Int32 → Prop} {x0 x2 x4 : Int64} {x6 : Int32} {T : Nat → Nat} {tc s i p : Nat} (hok : ps_ok T tc) (hlk : ps_lk T tc ≤ 8) (htc : tc ≤ 15) (hi : i < tc) (hs : s < 256) (hp : i / 7 = p)
    (n : J (nI (ps_rv T s (i + 1))) (nI (ps_lk T (i + 1))) (nI (i + 1))) : wL_eval_40 post J x0 x2 x4 x6 (nI s) (nI (ps_rv T s i)) (nI (ps_lk T i)) (nI i) (lN (ps_pt T tc p)) := by
  have hT : ∀ j, j < tc → T j < 512 := fun j hj => by
    have := (hok j hj).1
    omega
  have r := ps_rv_lt (s := s) hok i (by omega)
  have q := ps_p8 (Nat.le_trans (ps_dp_lk T i) (Nat.le_trans (ps_lk_le (show i ≤ tc by omega)) hlk))
  have q2 := Nat.le_trans (ps_lk_le (T := T) (show i ≤ tc by omega)) hlk
  have t := hok i (by omega)
  have e9 : (9 : Int32) * nI (i % 7) = nI (9 * (i % 7)) := pk_mul 9 _
  refine ⟨by decide, nm_r (e' := nI (T i)) ?_ ?_⟩
  · rw [pl_rem7 (by omega), e9, wb_shr (ps_pt_64 hT) (by omega), lN_i, pl_and _ 9 (by decide) (by decide)]
    exact congrArg nI (ps_pt_g hT hi hp)
  · refine pk_le 256 (T i) (fun h => ?_) (fun h => ?_)
    · rw [ps_rvJ (by omega), ps_lkJ (by omega)] at n
      refine ⟨by decide, nm_r (e' := nI ((T i - 256) / 8 + 1)) ?_ ⟨by decide, nm_r (e' := nI ((T i - 256) % 8 + 1)) ?_ ⟨_, pl_jloop (by omega) (by omega) (by omega) n _ 0 (Nat.zero_add _)⟩⟩⟩
      · rw [px_sub h, px_div8 (by omega), nI_1]
      · rw [px_sub h, px_rem8 (by omega), nI_1]
    · rw [ps_rvL h, ps_lkL h] at n
      refine nm_r (e' := nI (2 * ps_rv T s i + s / 2 ^ ps_lk T i % 2)) ?_ (nm_r (nI_1 _) (nm_r (nI_1 i) n))
      rw [px_shl1 (by omega), ps_bit (by omega) (by omega), ps_or1 _ _ (ps_b2 _)]
theorem pl_eloop {post : Int32 → Prop} {T : Nat → Nat} {tc s : Nat} (hok : ps_ok T tc) (hlk : ps_lk T tc ≤ 8) (hdp : ps_dp T tc = 1) (htc : tc ≤ 15) (hs : s < 256) (hp : post (ps_i (ps_tr T tc s))) :
    ∀ d i, i + d = tc → wL_eval_9 post (lN (ps_pt T tc 0)) (lN (ps_pt T tc 1)) (lN (ps_pt T tc 2)) (nI tc) (nI s) (d + 1) (nI (ps_rv T s i)) (nI (ps_lk T i)) (nI i) := by
  intro d
  induction d with
  | zero =>
    intro i hi
    cases (show i = tc by omega)
    have r := ps_rv_lt (s := s) hok tc (Nat.le_refl _)
    rw [hdp] at r
    refine br_t (nI_le (Nat.le_refl _) (by omega)) ?_
    rw [pl_and _ 1 (by decide) (by decide)]
    refine pk_eq (ps_rv T s tc % 2 ^ 1) 1 (fun h => ?_) (fun h => ?_) rfl rfl (by omega)
    · rw [ps_tr, decide_eq_true (by omega)] at hp
      exact hp
    · rw [ps_tr, decide_eq_false (by omega)] at hp
      exact hp
  | succ d ih =>
    intro i hi
    have n := ih (i + 1) (by omega)
    refine br_f (nI_ge (by omega) (by omega)) (pk_le 7 i (fun h => pk_le 14 i (fun h2 => ?_) (fun h2 => ?_)) (fun h => ?_))
    · exact pl_tok hok hlk htc (by omega) hs (by omega) n
    · exact pl_tok hok hlk htc (by omega) hs (by omega) n
    · exact pl_tok hok hlk htc (by omega) hs (by omega) n
theorem pl_eval {post : Int32 → Prop} {T : Nat → Nat} {tc s : Nat} (hok : ps_ok T tc) (hlk : ps_lk T tc ≤ 8) (hdp : ps_dp T tc = 1) (htc : tc ≤ 15) (hs : s < 256) (hp : post (ps_i (ps_tr T tc s))) : wpL_eval post () (lN (ps_pt T tc 0)) (lN (ps_pt T tc 1)) (lN (ps_pt T tc 2)) (nI tc) (nI s) :=
  ⟨tc + 1, pl_eloop hok hlk hdp htc hs hp tc 0 (Nat.zero_add _)⟩
theorem pl_cell {post : Int32 → Prop} {L : Nat} {xs : Nat → Int32} {k : Nat} (hL : L < 2 ^ 31) (hk : k < 2 ^ 31) (hp : ∀ r, post r) : wpL_cell post L xs () (nI k) :=
  pk_le L k (fun _ => hp _) (fun h => ⟨vp_in_nI h hL, hp _⟩)
theorem pl_pick {post : Int32 → Prop} {c : Int32} {m : Nat} (h0 : 0 < m) (hm : m < 2 ^ 31) (hp : ∀ j, j < m → post (nI j)) : wpL_pick post () c (nI m) := by
  refine ⟨nI_ne0 h0 hm, ?_⟩
  rw [pk_and c 31 (by decide), pk_rem (Nat.mod_lt _ (by decide)) h0 hm]
  exact hp _ (Nat.mod_lt _ h0)
end
section
def ps_le (a b : Nat) : Prop := ∀ i, a / 2 ^ i % 2 ≤ b / 2 ^ i % 2
theorem ps_le_push {a b x y : Nat} (h : ps_le a b) (hb : x ≤ y) (hx : x < 2) (hy : y < 2) : ps_le (2 * a + x) (2 * b + y) := by
  intro i
  cases i with
  | zero =>
    rw [Nat.pow_zero, Nat.div_one, Nat.div_one]
    omega
  | succ i =>
    rw [ps_bS a x i hx, ps_bS b y i hy]
    exact h i
theorem ps_le_drop {a b : Nat} (h : ps_le a b) (n : Nat) : ps_le (a / 2 ^ n) (b / 2 ^ n) := fun i => by
  rw [ps_bD, ps_bD]
  exact h (n + i)
theorem ps_le_cnt {a b : Nat} (h : ps_le a b) (m : Nat) : ps_cnt a m ≤ ps_cnt b m := by
  induction m with
  | zero => exact Nat.le_refl 0
  | succ m ih =>
    show ps_cnt a m + a / 2 ^ m % 2 ≤ ps_cnt b m + b / 2 ^ m % 2
    exact Nat.add_le_add ih (h m)
theorem ps_rv_mono {T : Nat → Nat} {s t : Nat} (h : ps_le s t) : ∀ i, ps_le (ps_rv T s i) (ps_rv T t i) := by
  intro i
  induction i with
  | zero => exact fun _ => Nat.le_refl _
  | succ i ih =>
    by_cases c : T i < 256
    · rw [ps_rvL c, ps_rvL c]
      exact ps_le_push ih (h _) (ps_b2 _) (ps_b2 _)
    · rw [ps_rvJ c, ps_rvJ c]
      have q := ps_le_cnt ih ((T i - 256) % 8 + 1)
      refine ps_le_push (ps_le_drop ih _) ?_ (by split <;> decide) (by split <;> decide)
      by_cases z : (T i - 256) / 8 + 1 ≤ ps_cnt (ps_rv T s i) ((T i - 256) % 8 + 1)
      · rw [if_pos z, if_pos (Nat.le_trans z q)]
        exact Nat.le_refl 1
      · rw [if_neg z]
        exact Nat.zero_le _
theorem ps_tr_mono {T : Nat → Nat} {tc s t : Nat} (hok : ps_ok T tc) (hdp : ps_dp T tc = 1) (h : ps_le s t) (hs : ps_tr T tc s = true) : ps_tr T tc t = true := by
  have a := ps_rv_mono (T := T) h tc 0
  have b := ps_rv_lt (s := t) hok tc (Nat.le_refl _)
  have c : ps_rv T s tc = 1 := of_decide_eq_true hs
  rw [hdp] at b
  rw [Nat.pow_zero, Nat.div_one, Nat.div_one, c] at a
  exact decide_eq_true (by omega)
theorem ps_bs_min (g : Nat → Bool) (w : Nat → Nat) : ∀ m i, 0 < i → i < m → g i = true → ps_bs g w m ≠ 0 ∧ w (ps_bs g w m) ≤ w i := by
  intro m
  induction m with
  | zero => intro i _ h; omega
  | succ m ih =>
    intro i h0 hi hg
    by_cases c : g m = true ∧ (ps_bs g w m = 0 ∨ w m < w (ps_bs g w m))
    · have e : ps_bs g w (m + 1) = m := if_pos c
      rw [e]
      by_cases z : i = m
      · exact ⟨by omega, by rw [z]; exact Nat.le_refl _⟩
      · obtain ⟨a, b⟩ := ih i h0 (by omega) hg
        rcases c.2 with q | q
        · exact absurd q a
        · exact ⟨by omega, by omega⟩
    · have e : ps_bs g w (m + 1) = ps_bs g w m := if_neg c
      rw [e]
      by_cases z : i = m
      · rw [← z] at c ⊢
        have z1 : ¬ ps_bs g w i = 0 := fun q => c ⟨hg, Or.inl q⟩
        have z2 : ¬ w i < w (ps_bs g w i) := fun q => c ⟨hg, Or.inr q⟩
        exact ⟨z1, by omega⟩
      · exact ih i h0 (by omega) hg
theorem pl_btn (n i : Nat) : bt (nI n) i = (decide (i < 32) && n.testBit i) := by
  show (BitVec.ofNat 32 n).getLsbD i = _
  rw [BitVec.getLsbD_ofNat]
theorem ps_tb (n i : Nat) : n.testBit i = decide (n / 2 ^ i % 2 = 1) := Nat.testBit_eq_decide_div_mod_eq
theorem ps_sb_le {s f : Nat} (hs : s < 2 ^ 31) (hf : f < 2 ^ 31) (h : ps_sb s f = true) : ps_le s f := by
  have h' := of_decide_eq_true h
  intro i
  by_cases hi : i < 32
  · have q : bt (nI s &&& (nI f ^^^ (-1))) i = false := by
      rw [h']
      exact b_0 i
    rw [b_and, b_xor, b_m1 i hi, pl_btn, pl_btn, decide_eq_true hi, Bool.true_and, Bool.true_and, ps_tb, ps_tb] at q
    have b1 := ps_b2 (s / 2 ^ i)
    have b2 := ps_b2 (f / 2 ^ i)
    by_cases z : s / 2 ^ i % 2 = 1
    · by_cases z2 : f / 2 ^ i % 2 = 1
      · omega
      · rw [decide_eq_true z, decide_eq_false z2] at q
        exact absurd q (by decide)
    · omega
  · rw [ps_hi hs (show 31 ≤ i by omega)]
    exact Nat.zero_le _
theorem ps_le_sb {s f : Nat} (h : ps_le s f) : ps_sb s f = true := by
  refine decide_eq_true (b_ext fun i hi => ?_)
  rw [b_and, b_xor, b_m1 i hi, b_0, pl_btn, pl_btn, decide_eq_true hi, Bool.true_and, Bool.true_and, ps_tb, ps_tb]
  have q := h i
  by_cases z : s / 2 ^ i % 2 = 1
  · rw [decide_eq_true z, decide_eq_true (by have := ps_b2 (f / 2 ^ i); omega)]
    rfl
  · rw [decide_eq_false z, Bool.false_and]
theorem ps_clr_le : ∀ s, s < 256 → ∀ i, i < 8 → s / 2 ^ i % 2 = 1 → ∀ j, j < 8 → (s - 2 ^ i) / 2 ^ j % 2 = if j = i then 0 else s / 2 ^ j % 2 := by decide +kernel
theorem ps_wt_cl {w L : Nat → Nat} {s i : Nat} (hs : s < 256) (hi : i < 8) (hb : s / 2 ^ i % 2 = 1) : ∀ m, m ≤ 8 → ps_wt w L (s - 2 ^ i) m + (if i < m then w (L i / 64) else 0) = ps_wt w L s m := by
  intro m
  induction m with
  | zero => exact fun _ => rfl
  | succ m ih =>
    intro hm
    have r := ih (by omega)
    have e := ps_clr_le s hs i hi hb m (by omega)
    show ps_wt w L (s - 2 ^ i) m + (if (s - 2 ^ i) / 2 ^ m % 2 = 1 then w (L m / 64) else 0) + _ = ps_wt w L s m + (if s / 2 ^ m % 2 = 1 then w (L m / 64) else 0)
    rw [e]
    by_cases z : m = i
    · subst z
      rw [if_pos rfl, if_neg (by decide), if_pos (by omega), if_pos hb]
      rw [if_neg (by omega)] at r
      omega
    · rw [if_neg z]
      by_cases z2 : i < m
      · rw [if_pos z2] at r
        rw [if_pos (show i < m + 1 by omega)]
        omega
      · rw [if_neg z2] at r
        rw [if_neg (show ¬ i < m + 1 by omega)]
        omega
theorem ps_wt_pos {w L : Nat → Nat} {s : Nat} (hw : ∀ k, 1 ≤ w k) : ∀ m, (∃ i, i < m ∧ s / 2 ^ i % 2 = 1) → 1 ≤ ps_wt w L s m := by
  intro m
  induction m with
  | zero =>
    intro h
    obtain ⟨i, hi, _⟩ := h
    omega
  | succ m ih =>
    intro h
    obtain ⟨i, hi, hb⟩ := h
    show 1 ≤ ps_wt w L s m + (if s / 2 ^ m % 2 = 1 then w (L m / 64) else 0)
    by_cases z : i = m
    · rw [← z, if_pos hb]
      have := hw (L i / 64)
      omega
    · have := ih ⟨i, by omega, hb⟩
      omega
theorem ps_some {s : Nat} : ∀ m, s < 2 ^ m → ¬ s = 0 → ∃ i, i < m ∧ s / 2 ^ i % 2 = 1 := by
  intro m
  induction m with
  | zero =>
    intro h h0
    rw [Nat.pow_zero] at h
    omega
  | succ m ih =>
    intro h h0
    by_cases z : s < 2 ^ m
    · obtain ⟨i, hi, hb⟩ := ih z h0
      exact ⟨i, by omega, hb⟩
    · refine ⟨m, by omega, ?_⟩
      have e : s / 2 ^ m = 1 := by
        rw [Nat.div_eq_iff (ps_p0 m)]
        rw [Nat.pow_succ] at h
        omega
      rw [e]
theorem ps_mk_id {m : Nat} : ∀ n, m < 2 ^ n → ps_mk (fun j => decide (m / 2 ^ j % 2 = 1)) n = m := by
  intro n
  have key : ∀ n, ps_mk (fun j => decide (m / 2 ^ j % 2 = 1)) n = m % 2 ^ n := by
    intro n
    induction n with
    | zero =>
      rw [Nat.pow_zero, Nat.mod_one]
      rfl
    | succ n ih =>
      show ps_mk _ n + (if decide (m / 2 ^ n % 2 = 1) = true then 2 ^ n else 0) = _
      rw [ih, Nat.pow_succ, Nat.mod_mul]
      have b := ps_b2 (m / 2 ^ n)
      by_cases z : m / 2 ^ n % 2 = 1
      · rw [decide_eq_true z, if_pos rfl, z, Nat.mul_one]
      · rw [decide_eq_false z, if_neg (by decide), show m / 2 ^ n % 2 = 0 by omega, Nat.mul_zero]
  intro h
  rw [key, Nat.mod_eq_of_lt h]
theorem ps_mnA_i {P : Nat → Bool} {s : Nat} : ∀ m, (∀ i, i < m → s / 2 ^ i % 2 = 1 → P (s - 2 ^ i) = false) → ps_mnA P s m = true := by
  intro m
  induction m with
  | zero => exact fun _ => rfl
  | succ m ih =>
    intro h
    show (ps_mnA P s m && !(decide (s / 2 ^ m % 2 = 1) && P (s - 2 ^ m))) = true
    rw [ih (fun i hi => h i (by omega))]
    by_cases z : s / 2 ^ m % 2 = 1
    · rw [h m (by omega) z, Bool.and_false]
      rfl
    · rw [decide_eq_false z, Bool.false_and]
      rfl
theorem ps_mnA_e {P : Nat → Bool} {s i : Nat} : ∀ m, ps_mnA P s m = true → i < m → s / 2 ^ i % 2 = 1 → P (s - 2 ^ i) = false := by
  intro m
  induction m with
  | zero => intro _ h; omega
  | succ m ih =>
    intro h hi hb
    have h' : (ps_mnA P s m && !(decide (s / 2 ^ m % 2 = 1) && P (s - 2 ^ m))) = true := h
    rw [Bool.and_eq_true] at h'
    by_cases z : i = m
    · subst z
      have q := h'.2
      rw [decide_eq_true hb, Bool.true_and] at q
      cases e : P (s - 2 ^ i)
      · rfl
      · rw [e] at q
        exact absurd q (by decide)
    · exact ih h'.1 (by omega) hb
theorem ps_best_min {T L : Nat → Nat} {tc lc f : Nat} {w : Nat → Nat} (hlc : lc ≤ 8) (hf : f < 2 ^ lc) (hw : ∀ k, 1 ≤ w k)
    (hm : ¬ ps_bs (fun s => ps_sb s f && ps_tr T tc s) (fun s => ps_wt w L s lc) (2 ^ lc) = 0) :
    ps_mn (ps_tr T tc) lc (ps_bs (fun s => ps_sb s f && ps_tr T tc s) (fun s => ps_wt w L s lc) (2 ^ lc)) = true := by
  have h8 := ps_p8 hlc
  have bi := ps_bs_in (fun s => ps_sb s f && ps_tr T tc s) (fun s => ps_wt w L s lc) (2 ^ lc)
  have mi := ps_bs_min (fun s => ps_sb s f && ps_tr T tc s) (fun s => ps_wt w L s lc) (2 ^ lc)
  generalize ps_bs (fun s => ps_sb s f && ps_tr T tc s) (fun s => ps_wt w L s lc) (2 ^ lc) = m at *
  obtain ⟨b1, b2⟩ : m < 2 ^ lc ∧ (ps_sb m f && ps_tr T tc m) = true := by
    rcases bi with q | q
    · exact absurd q hm
    · exact q
  rw [Bool.and_eq_true] at b2
  have ml := ps_sb_le (by omega) (by omega) b2.1
  unfold ps_mn
  rw [b2.2, Bool.true_and]
  refine ps_mnA_i lc (fun i hi hb => ps_nf fun q => ?_)
  have cl := ps_clr_le m (by omega) i (by omega) hb
  have le : ps_le (m - 2 ^ i) f := by
    intro j
    by_cases hj : j < 8
    · have e := cl j hj
      have z := ml j
      split at e <;> omega
    · rw [ps_hi (show m - 2 ^ i < 2 ^ 8 from Nat.lt_of_le_of_lt (Nat.sub_le _ _) (by omega)) (show 8 ≤ j by omega)]
      exact Nat.zero_le _
  have p0 := ps_p0 i
  have ne : ¬ m - 2 ^ i = 0 := by
    intro z
    rw [z, ps_tr0] at q
    exact absurd q (by decide)
  have g := mi (m - 2 ^ i) (by omega) (by omega) (by rw [ps_le_sb le, q]; rfl)
  have wc := ps_wt_cl (w := w) (L := L) (show m < 256 by omega) (show i < 8 by omega) hb lc hlc
  rw [if_pos hi] at wc
  have := hw (L i / 64)
  have g2 := g.2
  omega
theorem ps_er_le {P : Nat → Bool} : ∀ d t, (∃ e, t ≤ e ∧ e < t + d ∧ P e = true ∧ (∀ q, t ≤ q → q < e → P q = false) ∧ ps_er P d t = nI e) ∨ ((∀ q, t ≤ q → q < t + d → P q = false) ∧ ps_er P d t = -1) := by
  intro d
  induction d with
  | zero =>
    intro t
    exact Or.inr ⟨fun q a b => by omega, rfl⟩
  | succ d ih =>
    intro t
    by_cases c : P t = true
    · exact Or.inl ⟨t, Nat.le_refl _, by omega, c, fun q a b => by omega, ps_erT c⟩
    · have c' := ps_nf c
      rcases ih (t + 1) with ⟨e, a1, a2, a3, a4, a5⟩ | ⟨a1, a2⟩
      · refine Or.inl ⟨e, by omega, by omega, a3, fun q p1 p2 => ?_, by rw [ps_erF c', a5]⟩
        by_cases z : q = t
        · rw [z]
          exact c'
        · exact a4 q (by omega) p2
      · refine Or.inr ⟨fun q p1 p2 => ?_, by rw [ps_erF c', a2]⟩
        by_cases z : q = t
        · rw [z]
          exact c'
        · exact a1 q (by omega) (by omega)
theorem ps_mk_le {p q : Nat → Bool} {n : Nat} (h : ∀ i, i < n → p i = true → q i = true) : ps_le (ps_mk p n) (ps_mk q n) := by
  intro i
  by_cases hi : i < n
  · rw [ps_mk_b n hi, ps_mk_b n hi]
    by_cases z : p i = true
    · rw [if_pos z, if_pos (h i hi z)]
      exact Nat.le_refl 1
    · rw [if_neg z]
      exact Nat.zero_le _
  · rw [ps_hi (ps_mk_lt p n) (show n ≤ i by omega)]
    exact Nat.zero_le _
end
section
theorem px_secok {post : Int32 → Prop} {c : Nat} (h1 : 64 ≤ c) (h2 : c < 192) (h3 : c % 64 < 8) (hp : post 1) : wpX_isSecret post () (nI (c / 64)) (nI (c % 64)) := by
  have g : wX_isSecret_10 post (nI (c % 64)) := br_f (nI_pos (by omega)) (br_f (nI_ge (b := 8) h3 (by decide)) hp)
  refine pk_eq (c / 64) 1 (fun _ => g) (fun q => pk_eq (c / 64) 2 (fun _ => g) (fun q2 => ?_))
  omega
theorem px_fitok {post : Int32 → Prop} {c : Nat} (hc : ps_fc c) (hp : post 1) : wpX_isFitPair post () (nI (c / 64)) (nI (c % 64)) := by
  obtain ⟨h1, h2, h3⟩ := hc
  refine pk_eq (c / 64) 3 (fun _ => ?_) (fun q => ?_)
  · exact br_f (nI_pos (by omega)) (br_f (nI_nlt (a := 63) (b := c % 64) (by omega) (by decide)) hp)
  · exact px_secok h1 (by omega) (h3 (by omega)) ⟨by decide, hp⟩
theorem px_clampok {post : Int32 → Prop} {m a b : Nat} (h1 : a ≤ m) (h2 : m ≤ b) (hb : b < 2 ^ 31) (hp : post (nI m)) : wpX_clamp post () (nI m) (nI a) (nI b) :=
  br_t (nI_le h1 (by omega)) (br_t (nI_le h2 hb) hp)
section
variable {ml kw hw aw tc lc rc ck : Nat} {xd xe : Int32} {T L S : Nat → Nat} {aS : Nat → Int32}
theorem px_lock {post : Int32 → St2 → Prop} {c : Nat} (hd : xd = 0) (hc : ps_fc c) (hl : lc < ml) (hm : ml ≤ 8) (ht : tc < 15)
    (hp : post (nI lc) (nI ml, nI kw, nI hw, nI aw, nI (tc + 1), nI (lc + 1), nI (rc + 1), xd, xe, nI ck, (fun j => nI (ps_up T tc c j)), (fun j => nI (ps_up L lc c j)), aS)) : wpX_lock post (nI ml, nI kw, nI hw, nI aw, nI tc, nI lc, nI rc, xd, xe, nI ck, (fun j => nI (T j)), (fun j => nI (L j)), aS) (nI (c / 64)) (nI (c % 64)) := by
  refine br_t hd (px_fitok hc (br_f (by decide) (br_t (nI_lt hl (by omega)) (px_code ⟨vp_in_nI (by omega) (by omega), nm_r (px_upd (by omega)) (nm_r (nI_1 lc) (nm_r (nI_1 rc) (px_append ht ?_)))⟩))))
  exact hp
theorem px_joinok {post : Int32 → St2 → Prop} {k n : Nat} (hd : xd = 0) (h1 : 1 ≤ k) (h2 : k ≤ n) (h3 : 2 ≤ n) (h4 : n ≤ 8) (h5 : n ≤ rc) (hr : rc ≤ 8) (ht : tc < 15)
    (hp : post (nI (rc - n + 1)) (nI ml, nI kw, nI hw, nI aw, nI (tc + 1), nI lc, nI (rc - n + 1), xd, xe, nI ck, (fun j => nI (ps_up T tc (256 + (k - 1) * 8 + (n - 1)) j)), (fun j => nI (L j)), aS)) : wpX_join post (nI ml, nI kw, nI hw, nI aw, nI tc, nI lc, nI rc, xd, xe, nI ck, (fun j => nI (T j)), (fun j => nI (L j)), aS) (nI k) (nI n) := by
  have ec : (256 + (nI k - 1) * 8) + (nI n - 1) = nI (256 + (k - 1) * 8 + (n - 1)) := by
    have e1 : nI k - 1 = nI (k - 1) := pk_sub (b := 1) (by omega)
    have e2 : nI n - 1 = nI (n - 1) := pk_sub (b := 1) (by omega)
    have e3 : nI (k - 1) * 8 = nI ((k - 1) * 8) := pk_mul _ 8
    have e4 : 256 + nI ((k - 1) * 8) = nI (256 + (k - 1) * 8) := nI_add 256 _
    rw [e1, e2, e3, e4, nI_add]
  have er : (nI rc - nI n) + 1 = nI (rc - n + 1) := by rw [pk_sub h5, nI_1]
  refine br_t hd (br_f (nI_nlt (b := 2) h3 (by omega)) (br_f (nI_nlt (a := 8) (b := n) h4 (by decide)) (br_f (nI_nlt (b := 1) h1 (by omega)) (br_t (nI_le h2 (by omega)) (br_t (nI_le h5 (by omega)) ?_)))))
  rw [ec]
  refine px_append ht (nm_r er ?_)
  exact hp
theorem ps_fs0 (j : Nat) : ps_fs L 0 j = 0 := by
  rw [ps_fs, Nat.zero_div, if_neg (by decide)]
theorem px_seal {post : Int32 → St2 → Prop} (hd : xd = 0) (hr : rc = 1) (hok : ps_ok T tc) (hlk : ps_lk T tc ≤ 8) (htc : tc ≤ 15) (hlc : lc ≤ 8) (hL : ∀ j, j < lc → ps_fc (L j))
    (hp : ∀ (r : Int32) (a : Nat → Int32), (∀ j, j < lc → a j = nI 0) → post r (nI ml, nI kw, nI hw, nI aw, nI tc, nI lc, nI rc, 1, xe, nI ck, (fun j => nI (T j)), (fun j => nI (L j)), a)) : wpX_seal post (nI ml, nI kw, nI hw, nI aw, nI tc, nI lc, nI rc, xd, xe, nI ck, (fun j => nI (T j)), (fun j => nI (L j)), aS) := by
  have h8 := Nat.lt_of_lt_of_le (ps_mk_lt (fun i => decide (¬ L i / 64 = 1)) lc) (ps_p8 hlc)
  refine br_t hd (br_t (by rw [hr]; rfl) (px_fill (s := 0) hlc (by decide) (fun a ha => px_keyless hlc hL (px_true hok hlk htc h8 ?_))))
  have ha' : ∀ j, j < lc → a j = nI 0 := fun j hj => by rw [ha j hj, ps_fs0]
  exact br_c (fun _ => hp _ a ha') (fun _ => hp _ a ha')
theorem ps_i_inj {a b : Bool} : ps_i a = ps_i b ↔ a = b := by cases a <;> cases b <;> decide
theorem px_hold {post : Int32 → St2 → Prop} {c : Nat} {b : Bool} (c1 : 64 ≤ c) (c2 : c < 192) (c3 : c % 64 < 8)
    (hp : ∀ (r e' : Int32), ps_hd e' c = b → (∀ c', 64 ≤ c' → c' < 192 → c' % 64 < 8 → ¬ c' = c → ps_hd e' c' = ps_hd xe c') → post r (nI ml, nI kw, nI hw, nI aw, nI tc, nI lc, nI rc, xd, e', nI ck, (fun j => nI (T j)), (fun j => nI (L j)), aS)) : wpX_hold post (nI ml, nI kw, nI hw, nI aw, nI tc, nI lc, nI rc, xd, xe, nI ck, (fun j => nI (T j)), (fun j => nI (L j)), aS) (nI (c / 64)) (nI (c % 64)) (ps_i b) := by
  refine px_secok c1 c2 c3 (br_f (by decide) (px_held c1 c2 c3 (ek_if ps_i_inj (fun q => ?_) (fun q => ?_))))
  · exact hp 0 xe q (fun _ _ _ _ _ => rfl)
  · refine nm_r (e' := xe ^^^ ((1 : Int32) <<< (nI ((c / 64 - 1) * 8 + c % 64) &&& 31))) (by rw [px_kn c1]) (hp 1 _ ?_ ?_)
    · rw [ps_hd_flip c1 c2 c3 c1 c2 c3, decide_eq_true rfl]
      revert q
      cases ps_hd xe c <;> cases b <;> first | (intro _; rfl) | (intro q; exact absurd rfl q)
    · intro c' p1 p2 p3 ne
      rw [ps_hd_flip c1 c2 c3 p1 p2 p3, decide_eq_false ne, Bool.xor_false]
theorem px_holds {post : Int32 → Prop} {c : Nat} (c1 : 64 ≤ c) (c2 : c < 192) (c3 : c % 64 < 8) (hp : post (ps_i (ps_hd xe c))) : wpX_holds post (nI ml, nI kw, nI hw, nI aw, nI tc, nI lc, nI rc, xd, xe, nI ck, (fun j => nI (T j)), (fun j => nI (L j)), aS) (nI (c / 64)) (nI (c % 64)) := by
  refine px_secok c1 c2 c3 (br_f (by decide) (px_held c1 c2 c3 ?_))
  by_cases q : ps_hd xe c = true
  · rw [q] at hp ⊢
    exact br_f (by decide) hp
  · rw [ps_nf q] at hp ⊢
    exact br_t (by decide) hp
theorem px_time {post : Int32 → St2 → Prop} {t : Nat} (ht : t < 64) (hp : post (nI ck) (nI ml, nI kw, nI hw, nI aw, nI tc, nI lc, nI rc, xd, xe, nI t, (fun j => nI (T j)), (fun j => nI (L j)), aS)) : wpX_setTime post (nI ml, nI kw, nI hw, nI aw, nI tc, nI lc, nI rc, xd, xe, nI ck, (fun j => nI (T j)), (fun j => nI (L j)), aS) (nI t) :=
  br_f (nI_pos (by omega)) (br_t (nI_le (b := 63) (by omega) (by decide)) hp)
theorem px_satisfy {post : Int32 → St2 → Prop} {m : Nat} (hd : ¬ xd = 0) (hok : ps_ok T tc) (hlk : ps_lk T tc ≤ 8) (htc : tc ≤ 15) (hlc : lc ≤ 8) (hck : ck < 64) (hL : ∀ j, j < lc → ps_fc (L j)) (h1 : kw ≤ 99) (h2 : hw ≤ 99) (h3 : aw ≤ 99)
    (em : ps_bs (fun s => ps_sb s (ps_mk (ps_ow L xe ck) lc) && ps_tr T tc s) (fun s => ps_wt (ps_w kw hw aw) L s lc) (2 ^ lc) = m) (hm : m < 2 ^ 31)
    (h0 : m = 0 → post (-1) (nI ml, nI kw, nI hw, nI aw, nI tc, nI lc, nI rc, xd, xe, nI ck, (fun j => nI (T j)), (fun j => nI (L j)), aS)) (hp : ¬ m = 0 → ∀ a : Nat → Int32, (∀ j, j < lc → a j = nI (ps_fs L m j)) → post (nI (ps_wt (ps_w kw hw aw) L m lc)) (nI ml, nI kw, nI hw, nI aw, nI tc, nI lc, nI rc, xd, xe, nI ck, (fun j => nI (T j)), (fun j => nI (L j)), a)) : wpX_satisfy post (nI ml, nI kw, nI hw, nI aw, nI tc, nI lc, nI rc, xd, xe, nI ck, (fun j => nI (T j)), (fun j => nI (L j)), aS) := by
  refine br_f hd (px_owners hlc hck hL (px_best hok hlk htc hlc hL h1 h2 h3 ?_))
  rw [em]
  refine px_take hlc hm hL (fun z => ?_) (fun z a ha => ?_)
  · exact h0 z
  · exact hp z a ha
theorem px_malleate {post : Int32 → St2 → Prop} {m : Nat} (hd : ¬ xd = 0) (hok : ps_ok T tc) (hlk : ps_lk T tc ≤ 8) (htc : tc ≤ 15) (hlc : lc ≤ 8) (hck : ck < 64) (hS : ∀ j, j < lc → aS j = nI (S j)) (hb : ∀ j, j < lc → S j < 256) (hL : ∀ j, j < lc → ps_fc (L j)) (h1 : kw ≤ 99) (h2 : hw ≤ 99) (h3 : aw ≤ 99)
    (em : ps_bs (ps_gm T tc lc (ps_mk (ps_on L S ck lc) lc) (ps_mk (ps_fl S) lc)) (fun s => ps_wt (ps_w kw hw aw) L s lc) (2 ^ lc) = m) (hm : m < 2 ^ 31)
    (h0 : m = 0 → post (-1) (nI ml, nI kw, nI hw, nI aw, nI tc, nI lc, nI rc, xd, xe, nI ck, (fun j => nI (T j)), (fun j => nI (L j)), aS)) (hp : ¬ m = 0 → ∀ a : Nat → Int32, (∀ j, j < lc → a j = nI (ps_fs L m j)) → post (nI (ps_wt (ps_w kw hw aw) L m lc)) (nI ml, nI kw, nI hw, nI aw, nI tc, nI lc, nI rc, xd, xe, nI ck, (fun j => nI (T j)), (fun j => nI (L j)), a)) : wpX_malleate post (nI ml, nI kw, nI hw, nI aw, nI tc, nI lc, nI rc, xd, xe, nI ck, (fun j => nI (T j)), (fun j => nI (L j)), aS) := by
  refine br_f hd (px_onlook hlc hck hS hb hL (px_filled hlc hS hb (px_bestm hok hlk htc hlc hL h1 h2 h3 (Nat.lt_of_lt_of_le (ps_mk_lt _ _) (ps_p8 hlc)) ?_)))
  rw [em]
  refine px_take hlc hm hL (fun z => ?_) (fun z a ha => ?_)
  · exact h0 z
  · exact hp z a ha
theorem px_place0 {post : Int32 → St2 → Prop} {i : Nat} (hd : ¬ xd = 0) (hi : i < lc) (hlc : lc ≤ 8) (hp : post 0 (nI ml, nI kw, nI hw, nI aw, nI tc, nI lc, nI rc, xd, xe, nI ck, (fun j => nI (T j)), (fun j => nI (L j)), upd aS i (nI 0))) : wpX_place post (nI ml, nI kw, nI hw, nI aw, nI tc, nI lc, nI rc, xd, xe, nI ck, (fun j => nI (T j)), (fun j => nI (L j)), aS) (nI i) 0 0 := by
  refine br_f hd (br_f (nI_pos (by omega)) (br_t (nI_lt hi (by omega)) (br_t rfl ⟨vp_in_nI (by omega) (by omega), nm_r (e' := upd aS i (nI 0)) (by rw [nI_clamp (by omega)]; rfl) ?_⟩)))
  exact hp
theorem px_place {post : Int32 → St2 → Prop} {i c : Nat} (hd : ¬ xd = 0) (hi : i < lc) (hlc : lc ≤ 8) (hck : ck < 64) (hc : ps_fc c) (hl : ps_fc (L i))
    (h0 : post (-1) (nI ml, nI kw, nI hw, nI aw, nI tc, nI lc, nI rc, xd, xe, nI ck, (fun j => nI (T j)), (fun j => nI (L j)), aS)) (hp : (c < 192 → ps_hd xe c = true) → ∀ r : Int32, post r (nI ml, nI kw, nI hw, nI aw, nI tc, nI lc, nI rc, xd, xe, nI ck, (fun j => nI (T j)), (fun j => nI (L j)), upd aS i (nI c))) : wpX_place post (nI ml, nI kw, nI hw, nI aw, nI tc, nI lc, nI rc, xd, xe, nI ck, (fun j => nI (T j)), (fun j => nI (L j)), aS) (nI i) (nI (c / 64)) (nI (c % 64)) := by
  obtain ⟨f1, f2, f3⟩ := id hc
  have X65 : (c < 192 → ps_hd xe c = true) → wX_place_65 post (nI i) (nI (c / 64)) (nI (c % 64)) (nI ml) (nI kw) (nI hw) (nI aw) (nI tc) (nI lc) (nI rc) xd xe (nI ck) (fun j => nI (T j)) (fun j => nI (L j)) aS := by
    intro q
    refine px_code ⟨vp_in_nI (by omega) (by omega), nm_r (e' := upd aS i (nI c)) (by rw [nI_clamp (by omega)]) (px_fits (S := fun _ => c) hi hlc hck pk_us f2 hl ?_)⟩
    exact br_c (fun _ => hp q 0) (fun _ => hp q 1)
  refine br_f hd (br_f (nI_pos (by omega)) (br_t (nI_lt hi (by omega)) (br_f (nI_ne0 (by omega) (by omega)) (px_fitok hc (br_f (by decide) (pk_eq (c / 64) 3 (fun q => ?_) (fun q => ?_)))))))
  · exact X65 (fun z => by omega)
  · refine px_held f1 (by omega) (f3 (by omega)) (ek_if (ps_i0 _) (fun z => h0) (fun z => X65 (fun _ => ps_nt z)))
theorem px_slot {post : Int32 → Prop} {i : Nat} (hd : ¬ xd = 0) (hi : i < lc) (hlc : lc ≤ 8) (hS : aS i = nI (S i)) (hp : post (nI (S i))) : wpX_slot post (nI ml, nI kw, nI hw, nI aw, nI tc, nI lc, nI rc, xd, xe, nI ck, (fun j => nI (T j)), (fun j => nI (L j)), aS) (nI i) := by
  refine br_f hd (br_f (nI_pos (by omega)) (br_t (nI_lt hi (by omega)) ⟨vp_in_nI (by omega) (by omega), ?_⟩))
  rw [nI_clamp (by omega), hS]
  exact hp
theorem px_status {post : Int32 → Prop} (hd : ¬ xd = 0) (hp : post (nI (ck + 64 * rc + 1024))) : wpX_status post (nI ml, nI kw, nI hw, nI aw, nI tc, nI lc, nI rc, xd, xe, nI ck, (fun j => nI (T j)), (fun j => nI (L j)), aS) := by
  have e : 64 * nI rc = nI (64 * rc) := pk_mul 64 rc
  refine nm_r (e' := nI (ck + 64 * rc)) (by rw [e, nI_add]) (br_f hd ?_)
  exact ek_v (P := post) (nI_add _ 1024) hp
theorem px_earliest {post : Int32 → Prop} (hd : ¬ xd = 0) (hok : ps_ok T tc) (hlk : ps_lk T tc ≤ 8) (htc : tc ≤ 15) (hlc : lc ≤ 8) (hL : ∀ j, j < lc → ps_fc (L j)) (hp : post (ps_er (fun t => ps_tr T tc (ps_mk (ps_ow L xe t) lc)) 64 0)) : wpX_earliest post (nI ml, nI kw, nI hw, nI aw, nI tc, nI lc, nI rc, xd, xe, nI ck, (fun j => nI (T j)), (fun j => nI (L j)), aS) :=
  br_f hd ⟨65, px_eloop hok hlk htc hlc hL 64 0 rfl hp⟩
end
end
section
theorem pl_shr6 {n : Nat} (h : n < 2 ^ 31) : nI n >>> ((6 : Int32) &&& 31) = nI (n / 64) := pk_shrN h _ 6 (by decide)
theorem pl_and63 (n : Nat) : nI n &&& 63 = nI (n % 64) := pl_and n 6 (by decide) (by decide)
theorem pl_ne1 {a : Nat} (h : a < 2 ^ 31) : ¬ nI a = -1 := fun e => nI_pos h (by rw [e]; decide)
theorem pl_evbit {e : Int32} {n : Nat} (hn : n < 32) (h : bt e n = true) : ¬ ((e >>> (nI n &&& 31)) &&& 1) = 0 := by
  intro z
  have q : bt ((e >>> (nI n &&& 31)) &&& 1) 0 = false := by
    rw [z]
    exact b_0 0
  rw [b_and, b_sshr n hn e (by decide), Nat.add_zero, if_pos hn, h] at q
  exact absurd q (by decide)
theorem ps_ow_mono {L : Nat → Nat} {e : Int32} {t t' i : Nat} (ht : t ≤ t') (h : ps_ow L e t i = true) : ps_ow L e t' i = true := by
  unfold ps_ow at h ⊢
  by_cases z : L i / 64 = 3
  · rw [if_pos z] at h ⊢
    have := of_decide_eq_true h
    exact decide_eq_true (by omega)
  · rw [if_neg z] at h ⊢
    exact h
section
variable {post : Int32 → Prop} {N : Nat} {xs : Nat → Int32} {J63 : Int32 → Int32 → Int32 → Int32 → Int32 → Int32 → Int32 → Int32 → Int32 → Int32 → Int32 → Int32 → (Nat → Int32) → (Nat → Int32) → (Nat → Int32) → Prop} {J467 : Int32 → Int32 → Int32 → Int32 → Int32 → Int32 → Int32 → Int32 → Int32 → Int32 → Int32 → Int32 → Int32 → (Nat → Int32) → (Nat → Int32) → (Nat → Int32) → Prop} {J957 : Int32 → Int32 → Int32 → Int32 → Prop} {x1 ev : Int32} {k en st kc ks : Nat}
variable {ml kw hw aw tc lc rc ck : Nat} {xd xe : Int32} {T L S : Nat → Nat} {aS : Nat → Int32}
theorem pc_1228 {fl : Nat} (hok : ps_ok T tc) (hlk : ps_lk T tc ≤ 8) (hdp : ps_dp T tc = 1) (htc : tc ≤ 15) (hlc : lc ≤ 8) (hfl : fl < 256) (hmn : ∀ i, i < lc → fl / 2 ^ i % 2 = 1 → ps_tr T tc (fl - 2 ^ i) = false) (hJ : J467 (nI k) ev (nI (st + 1)) (nI ml) (nI kw) (nI hw) (nI aw) (nI tc) (nI lc) (nI rc) xd xe (nI ck) (fun j => nI (T j)) (fun j => nI (L j)) aS) :
    ∀ d j, j + d = lc → wL_law_1228 post N xs J63 J467 x1 (nI k) ev (nI lc) (lN (ps_pt T tc 0)) (lN (ps_pt T tc 1)) (lN (ps_pt T tc 2)) (lN (ps_pk L 8 0 lc)) (nI tc) (nI en) (nI st) (nI fl) kc ks (nI ml) (nI kw) (nI hw) (nI aw) (nI tc) (nI lc) (nI rc) xd xe (nI ck) (fun j => nI (T j)) (fun j => nI (L j)) aS (d + 1) (nI j) := by
  intro d
  induction d with
  | zero =>
    intro j hj
    cases (show j = lc by omega)
    exact br_t (nI_le (Nat.le_refl _) (by omega)) (nm_r (nI_1 st) hJ)
  | succ d ih =>
    intro j hj
    have n := ih (j + 1) (by omega)
    refine br_f (nI_ge (by omega) (by omega)) ?_
    rw [ps_bit (by omega) (by omega)]
    have b := ps_b2 (fl / 2 ^ j)
    refine pk_eq (fl / 2 ^ j % 2) 1 (fun z => ?_) (fun z => nm_r (nI_1 j) n) rfl rfl (by omega)
    rw [ps_clr fl hfl j (by omega) z]
    refine pl_eval hok hlk hdp htc (Nat.lt_of_le_of_lt (Nat.sub_le _ _) hfl) ?_
    rw [hmn j (by omega) z]
    exact br_t rfl (nm_r (nI_1 j) n)
theorem pc_1196 {fl v : Nat} {ex : Bool} (hok : ps_ok T tc) (hlk : ps_lk T tc ≤ 8) (hdp : ps_dp T tc = 1) (htc : tc ≤ 15) (hlc : lc ≤ 8) (hfl : fl < 256) (hv5 : v < 5) (H : v = 1 → ex = true ∧ ps_mn (ps_tr T tc) lc fl = true) (hJ : J467 (nI k) ev (nI (st + 1)) (nI ml) (nI kw) (nI hw) (nI aw) (nI tc) (nI lc) (nI rc) xd xe (nI ck) (fun j => nI (T j)) (fun j => nI (L j)) aS) :
    wL_law_1196 post N xs J63 J467 x1 (nI k) ev (nI lc) (lN (ps_pt T tc 0)) (lN (ps_pt T tc 1)) (lN (ps_pt T tc 2)) (lN (ps_pk L 8 0 lc)) (nI tc) (nI en) (nI st) (nI v) (nI fl) (ps_i ex) kc ks (nI ml) (nI kw) (nI hw) (nI aw) (nI tc) (nI lc) (nI rc) xd xe (nI ck) (fun j => nI (T j)) (fun j => nI (L j)) aS := by
  refine pk_eq v 1 (fun q => ?_) (fun q => nm_r (nI_1 st) hJ)
  obtain ⟨h1, h2⟩ := H q
  rw [ps_mn, Bool.and_eq_true] at h2
  rw [h1]
  refine br_f (by decide) (pl_eval hok hlk hdp htc hfl ?_)
  rw [h2.1]
  exact br_f (by decide) ⟨lc + 1, pc_1228 hok hlk hdp htc hlc hfl (fun i hi hb => ps_mnA_e lc h2.2 hi hb) hJ lc 0 (Nat.zero_add _)⟩
theorem pc_1162 {fl v : Nat} {ex sat can z : Bool} {r : Int32} (hok : ps_ok T tc) (hlk : ps_lk T tc ≤ 8) (hdp : ps_dp T tc = 1) (htc : tc ≤ 15) (hlc : lc ≤ 8) (hfl : fl < 256) (hv5 : v < 5) (H : v = 1 → ex = true ∧ ps_mn (ps_tr T tc) lc fl = true)
    (hz : ¬ z = can) (H2 : sat = true → (can = true → (1 : Int32) ≤ r) ∧ (can = false → r = -1)) (hJ : J467 (nI k) ev (nI (st + 1)) (nI ml) (nI kw) (nI hw) (nI aw) (nI tc) (nI lc) (nI rc) xd xe (nI ck) (fun j => nI (T j)) (fun j => nI (L j)) aS) :
    wL_law_1162 post N xs J63 J467 x1 (nI k) ev (nI lc) (lN (ps_pt T tc 0)) (lN (ps_pt T tc 1)) (lN (ps_pt T tc 2)) (lN (ps_pk L 8 0 lc)) (nI tc) (nI en) (nI st) (ps_i sat) r (nI v) (nI fl) (ps_i ex) (ps_i can) (ps_i z) kc ks (nI ml) (nI kw) (nI hw) (nI aw) (nI tc) (nI lc) (nI rc) xd xe (nI ck) (fun j => nI (T j)) (fun j => nI (L j)) aS := by
  have g := pc_1196 (post := post) (N := N) (xs := xs) (J63 := J63) (J467 := J467) (x1 := x1) (ev := ev) (k := k) (en := en) (st := st) (kc := kc) (ks := ks) (ml := ml) (kw := kw) (hw := hw) (aw := aw) (rc := rc) (ck := ck) (xd := xd) (xe := xe) (aS := aS) (L := L) hok hlk hdp htc hlc hfl hv5 H hJ
  refine br_f (fun q => hz (ps_i_inj.mp q)) (ek_if (ps_i0 sat) (fun _ => g) (fun q => ek_if (ps_i0 can) (fun c => ?_) (fun c => ?_)))
  · exact br_t ((H2 (ps_nt q)).2 c) g
  · exact br_t ((H2 (ps_nt q)).1 (ps_nt c)) g
theorem pc_1088 {av fi j s : Nat} {ex : Bool} {x26 x28 x29 x30 : Int32} (hs : s < 256) (hev : ∀ n, n < 8 → s = 64 + n → bt ev n = true) (hJ : J957 (nI av) (nI fi) (ps_i ex) (nI (j + 1))) :
    wL_law_1088 post N xs J63 J467 J957 x1 (nI k) ev (nI lc) (lN (ps_pt T tc 0)) (lN (ps_pt T tc 1)) (lN (ps_pt T tc 2)) (lN (ps_pk L 8 0 lc)) (nI tc) (nI en) (nI st) x26 x28 x29 x30 (nI av) (nI fi) (ps_i ex) (nI j) (nI s) kc ks (nI ml) (nI kw) (nI hw) (nI aw) (nI tc) (nI lc) (nI rc) xd xe (nI ck) (fun j => nI (T j)) (fun j => nI (L j)) aS := by
  refine pk_lt s 64 (fun _ => nm_r (nI_1 j) hJ) (fun q => pk_le 72 s (fun _ => nm_r (nI_1 j) hJ) (fun q2 => ?_))
  have e : nI s - 64 = nI (s - 64) := pk_sub (b := 64) q
  rw [e]
  exact br_f (pl_evbit (by omega) (hev (s - 64) (by omega) (by omega))) (nm_r (nI_1 j) hJ)
theorem pc_1054 {av j : Nat} {x26 x28 x29 x30 : Int32} (hj : j < lc) (hlc : lc ≤ 8) (hl : ps_fc (L j)) (hs : S j < 256) (hev : ∀ n, n < 8 → S j = 64 + n → bt ev n = true) (hJ : J957 (nI av) (nI (ps_mk (ps_fl S) (j + 1))) (ps_i (!ps_ex (ps_wr L S ck) (j + 1))) (nI (j + 1))) :
    wL_law_1054 post N xs J63 J467 J957 x1 (nI k) ev (nI lc) (lN (ps_pt T tc 0)) (lN (ps_pt T tc 1)) (lN (ps_pt T tc 2)) (lN (ps_pk L 8 0 lc)) (nI tc) (nI en) (nI st) x26 x28 x29 x30 (nI av) (nI (ps_mk (ps_fl S) j)) (ps_i (!ps_ex (ps_wr L S ck) j)) (nI j) (nI (L j)) (nI (S j)) (ps_i (decide (L j / 64 = 3))) (ps_i (decide (L j % 64 ≤ ck))) kc ks (nI ml) (nI kw) (nI hw) (nI aw) (nI tc) (nI lc) (nI rc) xd xe (nI ck) (fun j => nI (T j)) (fun j => nI (L j)) aS := by
  have l2 := hl.2.1
  refine pk_eq (S j) 0 (fun z => ?_) (fun z => ?_)
  · have f : ps_fl S j = false := decide_eq_false (not_not_intro z)
    rw [ps_mkF f, ps_exF (by rw [ps_wr, f, Bool.false_and])] at hJ
    exact pc_1088 hs hev hJ
  · have f : ps_fl S j = true := decide_eq_true z
    rw [ps_mkT f] at hJ
    refine nm_r (px_set (by omega)) (pk_eq (S j) (L j) (fun q => ?_) (fun q => ?_))
    · by_cases t : L j / 64 = 3
      · by_cases o : L j % 64 ≤ ck
        · have ft : ps_ft L S ck j = true := by rw [ps_ft, decide_eq_true q, decide_eq_true o, Bool.or_true]; rfl
          rw [ps_exF (by rw [ps_wr, ft, Bool.not_true, Bool.and_false])] at hJ
          rw [decide_eq_true t, decide_eq_true o]
          exact br_f (by decide) (br_f (by decide) (pc_1088 hs hev hJ))
        · have ft : ps_ft L S ck j = false := by rw [ps_ft, decide_eq_false o, decide_eq_false (not_not_intro t), Bool.or_false, Bool.and_false]
          rw [ps_exT (by rw [ps_wr, ft, f]; rfl)] at hJ
          rw [decide_eq_true t, decide_eq_false o]
          exact br_f (by decide) (br_t (by decide) (pc_1088 (ex := false) hs hev hJ))
      · have ft : ps_ft L S ck j = true := by rw [ps_ft, decide_eq_true q, decide_eq_true t, Bool.true_or]; rfl
        rw [ps_exF (by rw [ps_wr, ft, Bool.not_true, Bool.and_false])] at hJ
        rw [decide_eq_false t]
        exact br_t (by decide) (pc_1088 hs hev hJ)
    · have ft : ps_ft L S ck j = false := by rw [ps_ft, decide_eq_false q, Bool.false_and]
      rw [ps_exT (by rw [ps_wr, ft, f]; rfl)] at hJ
      exact pc_1088 (ex := false) hs hev hJ
theorem pc_1012 {j : Nat} {x26 x28 x29 x30 : Int32} (hj : j < lc) (hlc : lc ≤ 8) (hl : ps_fc (L j)) (hs : S j < 256) (hev : ∀ n, n < 8 → S j = 64 + n → bt ev n = true) (hJ : J957 (nI (ps_mk (ps_ow L xe ck) (j + 1))) (nI (ps_mk (ps_fl S) (j + 1))) (ps_i (!ps_ex (ps_wr L S ck) (j + 1))) (nI (j + 1))) :
    wL_law_1012 post N xs J63 J467 J957 x1 (nI k) ev (nI lc) (lN (ps_pt T tc 0)) (lN (ps_pt T tc 1)) (lN (ps_pt T tc 2)) (lN (ps_pk L 8 0 lc)) (nI tc) (nI en) (nI st) x26 x28 x29 x30 (nI (ps_mk (ps_ow L xe ck) j)) (nI (ps_mk (ps_fl S) j)) (ps_i (!ps_ex (ps_wr L S ck) j)) (nI j) (nI (L j)) (nI (S j)) (ps_i (decide (L j / 64 = 3))) (ps_i (decide (L j % 64 ≤ ck))) kc ks (nI ml) (nI kw) (nI hw) (nI aw) (nI tc) (nI lc) (nI rc) xd xe (nI ck) (fun j => nI (T j)) (fun j => nI (L j)) aS := by
  obtain ⟨l1, l2, l3⟩ := id hl
  by_cases t : L j / 64 = 3
  · refine br_f (by rw [decide_eq_true t]; decide) ?_
    by_cases o : L j % 64 ≤ ck
    · have w : ps_ow L xe ck j = true := by rw [ps_ow, if_pos t, decide_eq_true o]
      rw [ps_mkT w] at hJ
      exact br_f (by rw [decide_eq_true o]; decide) (nm_r (px_set (by omega)) (pc_1054 hj hlc hl hs hev hJ))
    · have w : ps_ow L xe ck j = false := by rw [ps_ow, if_pos t, decide_eq_false o]
      rw [ps_mkF w] at hJ
      exact br_t (by rw [decide_eq_false o]; rfl) (pc_1054 hj hlc hl hs hev hJ)
  · refine br_t (by rw [decide_eq_false t]; rfl) ?_
    rw [pl_shr6 (by omega), pl_and63]
    refine px_holds l1 (by omega) (l3 (by omega)) ?_
    have w : ps_ow L xe ck j = ps_hd xe (L j) := by rw [ps_ow, if_neg t]
    by_cases h : ps_hd xe (L j) = true
    · rw [ps_mkT (w.trans h)] at hJ
      rw [h]
      exact br_t rfl (nm_r (px_set (by omega)) (pc_1054 hj hlc hl hs hev hJ))
    · rw [ps_mkF (w.trans (ps_nf h))] at hJ
      rw [ps_nf h]
      exact br_f (by decide) (pc_1054 hj hlc hl hs hev hJ)
theorem pc_957 {sat : Bool} {r : Int32} {v : Nat} (hd : ¬ xd = 0) (hok : ps_ok T tc) (hlk : ps_lk T tc ≤ 8) (hdp : ps_dp T tc = 1) (htc : tc ≤ 15) (hlc : lc ≤ 8) (hck : ck < 64) (hL : ∀ j, j < lc → ps_fc (L j)) (hS : ∀ j, j < lc → aS j = nI (S j)) (hb : ∀ j, j < lc → S j < 256) (hev : ∀ j, j < lc → ∀ n, n < 8 → S j = 64 + n → bt ev n = true)
    (hv5 : v < 5) (H : v = 1 → (!ps_ex (ps_wr L S ck) lc) = true ∧ ps_mn (ps_tr T tc) lc (ps_mk (ps_fl S) lc) = true)
    (H2 : sat = true → (ps_tr T tc (ps_mk (ps_ow L xe ck) lc) = true → (1 : Int32) ≤ r) ∧ (ps_tr T tc (ps_mk (ps_ow L xe ck) lc) = false → r = -1)) (hJ : J467 (nI k) ev (nI (st + 1)) (nI ml) (nI kw) (nI hw) (nI aw) (nI tc) (nI lc) (nI rc) xd xe (nI ck) (fun j => nI (T j)) (fun j => nI (L j)) aS) :
    ∀ d j, j + d = lc → wL_law_957 post N xs J63 J467 x1 (nI k) ev (nI lc) (lN (ps_pt T tc 0)) (lN (ps_pt T tc 1)) (lN (ps_pt T tc 2)) (lN (ps_pk L 8 0 lc)) (nI tc) (nI en) (nI st) (ps_i sat) r (nI v) (nI ck) kc ks (nI ml) (nI kw) (nI hw) (nI aw) (nI tc) (nI lc) (nI rc) xd xe (nI ck) (fun j => nI (T j)) (fun j => nI (L j)) aS (d + 1) (nI (ps_mk (ps_ow L xe ck) j)) (nI (ps_mk (ps_fl S) j)) (ps_i (!ps_ex (ps_wr L S ck) j)) (nI j) := by
  have h8 := ps_p8 hlc
  intro d
  induction d with
  | zero =>
    intro j hj
    cases (show j = lc by omega)
    refine br_t (nI_le (Nat.le_refl _) (by omega)) (pl_eval hok hlk hdp htc (Nat.lt_of_lt_of_le (ps_mk_lt _ _) h8) (px_earliest hd hok hlk htc hlc hL ?_))
    have fl8 : ps_mk (ps_fl S) lc < 256 := Nat.lt_of_lt_of_le (ps_mk_lt _ _) h8
    have g := fun (z : Bool) (hz : ¬ z = ps_tr T tc (ps_mk (ps_ow L xe ck) lc)) => pc_1162 (post := post) (N := N) (xs := xs) (J63 := J63) (J467 := J467) (x1 := x1) (ev := ev) (k := k) (en := en) (st := st) (kc := kc) (ks := ks) (ml := ml) (kw := kw) (hw := hw) (aw := aw) (rc := rc) (ck := ck) (xd := xd) (xe := xe) (aS := aS) (L := L) hok hlk hdp htc hlc fl8 hv5 H hz H2 hJ
    rcases ps_er_le (P := fun t => ps_tr T tc (ps_mk (ps_ow L xe t) lc)) 64 0 with ⟨e, a1, a2, a3, a4, a5⟩ | ⟨a1, a2⟩
    · rw [a5]
      refine br_f (pl_ne1 (by omega)) (pk_le e ck (fun q => ?_) (fun q => ?_))
      · exact g false (by rw [ps_tr_mono hok hdp (ps_mk_le (fun i _ hi => ps_ow_mono q hi)) a3]; decide)
      · exact g true (by rw [a4 ck (Nat.zero_le _) q]; decide)
    · rw [a2]
      exact br_t rfl (g true (by rw [a1 ck (Nat.zero_le _) (by omega)]; decide))
  | succ d ih =>
    intro j hj
    have n := ih (j + 1) (by omega)
    have l := hL j (by omega)
    obtain ⟨l1, l2, l3⟩ := id l
    refine br_f (nI_ge (by omega) (by omega)) (pl_code hlc (by omega) (fun i hi => (hL i hi).2.1) (px_slot hd (by omega) hlc (hS j (by omega)) ?_))
    have g := pc_1012 (post := post) (N := N) (xs := xs) (J63 := J63) (J467 := J467) (x1 := x1) (ev := ev) (k := k) (en := en) (st := st) (kc := kc) (ks := ks) (ml := ml) (kw := kw) (hw := hw) (aw := aw) (tc := tc) (rc := rc) (ck := ck) (xd := xd) (xe := xe) (T := T) (L := L) (S := S) (aS := aS) (x26 := ps_i sat) (x28 := r) (x29 := nI v) (x30 := nI ck) (j := j) (by omega) hlc l (hb j (by omega)) (hev j (by omega)) n
    have g2 : ∀ zt : Int32, zt = ps_i (decide (L j / 64 = 3)) → wL_law_995 post N xs J63 J467 (wL_law_957 post N xs J63 J467 x1 (nI k) ev (nI lc) (lN (ps_pt T tc 0)) (lN (ps_pt T tc 1)) (lN (ps_pt T tc 2)) (lN (ps_pk L 8 0 lc)) (nI tc) (nI en) (nI st) (ps_i sat) r (nI v) (nI ck) kc ks (nI ml) (nI kw) (nI hw) (nI aw) (nI tc) (nI lc) (nI rc) xd xe (nI ck) (fun j => nI (T j)) (fun j => nI (L j)) aS (d + 1)) x1 (nI k) ev (nI lc) (lN (ps_pt T tc 0)) (lN (ps_pt T tc 1)) (lN (ps_pt T tc 2)) (lN (ps_pk L 8 0 lc)) (nI tc) (nI en) (nI st) (ps_i sat) r (nI v) (nI ck) (nI (ps_mk (ps_ow L xe ck) j)) (nI (ps_mk (ps_fl S) j)) (ps_i (!ps_ex (ps_wr L S ck) j)) (nI j) (nI (L j)) (nI (S j)) zt kc ks (nI ml) (nI kw) (nI hw) (nI aw) (nI tc) (nI lc) (nI rc) xd xe (nI ck) (fun j => nI (T j)) (fun j => nI (L j)) aS := by
      intro zt hzt
      rw [hzt]
      unfold wL_law_995
      rw [pl_and63]
      refine pk_lt ck (L j % 64) (fun q => ?_) (fun q => ?_)
      · rw [decide_eq_false (show ¬ L j % 64 ≤ ck by omega)] at g
        exact g
      · rw [decide_eq_true q] at g
        exact g
    rw [pl_shr6 (by omega)]
    refine pk_eq (L j / 64) 3 (fun q => g2 1 (by rw [decide_eq_true q]; rfl)) (fun q => g2 0 (by rw [decide_eq_false q]; rfl))
theorem pc_906 {sat mal : Bool} {r : Int32} (hd : ¬ xd = 0) (hok : ps_ok T tc) (hlk : ps_lk T tc ≤ 8) (hdp : ps_dp T tc = 1) (htc : tc ≤ 15) (hlc : lc ≤ 8) (hck : ck < 64) (hrc : rc = 1) (hL : ∀ j, j < lc → ps_fc (L j)) (hS : ∀ j, j < lc → aS j = nI (S j)) (hb : ∀ j, j < lc → S j < 256) (hev : ∀ j, j < lc → ∀ n, n < 8 → S j = 64 + n → bt ev n = true)
    (H1 : (sat = true ∨ mal = true) → ¬ r < 1 → ps_sp T L S tc lc ck = 1)
    (H2 : sat = true → (ps_tr T tc (ps_mk (ps_ow L xe ck) lc) = true → (1 : Int32) ≤ r) ∧ (ps_tr T tc (ps_mk (ps_ow L xe ck) lc) = false → r = -1)) (hJ : J467 (nI k) ev (nI (st + 1)) (nI ml) (nI kw) (nI hw) (nI aw) (nI tc) (nI lc) (nI rc) xd xe (nI ck) (fun j => nI (T j)) (fun j => nI (L j)) aS) :
    wL_law_906 post N xs J63 J467 x1 (nI k) ev (nI lc) (lN (ps_pt T tc 0)) (lN (ps_pt T tc 1)) (lN (ps_pt T tc 2)) (lN (ps_pk L 8 0 lc)) (nI tc) (nI en) (nI st) (ps_i sat) (ps_i mal) r kc ks (nI ml) (nI kw) (nI hw) (nI aw) (nI tc) (nI lc) (nI rc) xd xe (nI ck) (fun j => nI (T j)) (fun j => nI (L j)) aS := by
  have hv5 : ps_sp T L S tc lc ck < 5 := by
    unfold ps_sp
    split
    · decide
    · split
      · split <;> decide
      · decide
  have H : ps_sp T L S tc lc ck = 1 → (!ps_ex (ps_wr L S ck) lc) = true ∧ ps_mn (ps_tr T tc) lc (ps_mk (ps_fl S) lc) = true := by
    unfold ps_sp
    intro q
    by_cases c1 : ps_ex (ps_wr L S ck) lc = true
    · rw [if_pos c1] at q
      omega
    · rw [if_neg c1] at q
      by_cases c2 : ps_tr T tc (ps_mk (ps_fl S) lc) = true
      · rw [if_pos c2] at q
        by_cases c3 : ps_mn (ps_tr T tc) lc (ps_mk (ps_fl S) lc) = true
        · exact ⟨by rw [ps_nf c1]; rfl, c3⟩
        · rw [if_neg c3] at q
          omega
      · rw [if_neg c2] at q
        omega
  have g : wL_law_936 post N xs J63 J467 x1 (nI k) ev (nI lc) (lN (ps_pt T tc 0)) (lN (ps_pt T tc 1)) (lN (ps_pt T tc 2)) (lN (ps_pk L 8 0 lc)) (nI tc) (nI en) (nI st) (ps_i sat) r (nI (ps_sp T L S tc lc ck)) kc ks (nI ml) (nI kw) (nI hw) (nI aw) (nI tc) (nI lc) (nI rc) xd xe (nI ck) (fun j => nI (T j)) (fun j => nI (L j)) aS := by
    refine px_status hd (nm_r (e' := nI ck) ?_ ⟨lc + 1, pc_957 hd hok hlk hdp htc hlc hck hL hS hb hev hv5 H H2 hJ lc 0 (Nat.zero_add _)⟩)
    rw [pl_and63, hrc]
    exact congrArg nI (by omega)
  refine px_spend hd hok hlk htc hlc hck hS hb hL (ek_if (ps_i0 sat) (fun q => ek_if (ps_i0 mal) (fun q2 => g) (fun q2 => ?_)) (fun q => ?_))
  · exact br_c (fun _ => g) (fun z => br_t (by rw [H1 (Or.inr (ps_nt q2)) z]; rfl) g)
  · exact br_c (fun _ => g) (fun z => br_t (by rw [H1 (Or.inl (ps_nt q)) z]; rfl) g)
end
end
section
def pv_ok (T L : Nat → Nat) (ml kw hw aw tc lc rc : Nat) : Prop := ps_ok T tc ∧ ps_lk T tc = lc ∧ ps_dp T tc = 1 ∧ rc = 1 ∧ lc ≤ ml ∧ ml ≤ 8 ∧ tc ≤ 15 ∧ (∀ j, j < lc → ps_fc (L j)) ∧ 1 ≤ kw ∧ kw ≤ 99 ∧ 1 ≤ hw ∧ hw ≤ 99 ∧ 1 ≤ aw ∧ aw ≤ 99
def pv_ev (S : Nat → Nat) (lc : Nat) (xe ev : Int32) (aS : Nat → Int32) : Prop := (∀ j, j < lc → aS j = nI (S j)) ∧ (∀ j, j < lc → S j < 256) ∧ (∀ n, n < 8 → bt xe n = true → bt ev n = true) ∧ (∀ j, j < lc → ∀ n, n < 8 → S j = 64 + n → bt ev n = true)
theorem ps_ex_no {p : Nat → Bool} : ∀ m, (∀ j, j < m → p j = false) → ps_ex p m = false := by
  intro m
  induction m with
  | zero => exact fun _ => rfl
  | succ m ih =>
    intro h
    rw [ps_exF (h m (by omega))]
    exact ih (fun j hj => h j (by omega))
theorem ps_w_ge {kw hw aw : Nat} (h1 : 1 ≤ kw) (h2 : 1 ≤ hw) (h3 : 1 ≤ aw) : ∀ k, 1 ≤ ps_w kw hw aw k := by
  intro k
  unfold ps_w
  split
  · exact h1
  · split
    · exact h2
    · exact h3
theorem ps_fs_1 {L : Nat → Nat} {m j : Nat} (h : m / 2 ^ j % 2 = 1) : ps_fs L m j = L j := if_pos h
theorem ps_fs_0 {L : Nat → Nat} {m j : Nat} (h : ¬ m / 2 ^ j % 2 = 1) : ps_fs L m j = 0 := if_neg h
theorem ps_fs_fl {L : Nat → Nat} {lc m : Nat} (hL : ∀ j, j < lc → ps_fc (L j)) (hm : m < 2 ^ lc) : ps_mk (ps_fl (ps_fs L m)) lc = m := by
  rw [ps_mk_c (q := fun j => decide (m / 2 ^ j % 2 = 1)) lc (fun j hj => ?_), ps_mk_id lc hm]
  have l := (hL j hj).1
  unfold ps_fl
  by_cases b : m / 2 ^ j % 2 = 1
  · rw [ps_fs_1 b, decide_eq_true b, decide_eq_true (by omega)]
  · rw [ps_fs_0 b, decide_eq_false b, decide_eq_false (by omega)]
theorem ps_fs_sp {T L : Nat → Nat} {tc lc ck m : Nat} (hL : ∀ j, j < lc → ps_fc (L j)) (hm : m < 2 ^ lc) (ho : ∀ j, j < lc → m / 2 ^ j % 2 = 1 → L j / 64 = 3 → L j % 64 ≤ ck) (hn : ps_mn (ps_tr T tc) lc m = true) : ps_sp T L (ps_fs L m) tc lc ck = 1 := by
  have w : ps_ex (ps_wr L (ps_fs L m) ck) lc = false := by
    refine ps_ex_no lc (fun j hj => ?_)
    have l := (hL j hj).1
    by_cases b : m / 2 ^ j % 2 = 1
    · have ft : ps_ft L (ps_fs L m) ck j = true := by
        rw [ps_ft, decide_eq_true (ps_fs_1 b), Bool.true_and]
        by_cases t : L j / 64 = 3
        · rw [decide_eq_true (ho j hj b t), Bool.or_true]
        · rw [decide_eq_true t, Bool.true_or]
      rw [ps_wr, ft, Bool.not_true, Bool.and_false]
    · have fl : ps_fl (ps_fs L m) j = false := by
        unfold ps_fl
        rw [ps_fs_0 b]
        rfl
      rw [ps_wr, fl, Bool.false_and]
  have t : ps_tr T tc m = true := by
    rw [ps_mn, Bool.and_eq_true] at hn
    exact hn.1
  unfold ps_sp
  rw [ps_fs_fl hL hm, if_neg (by rw [w]; decide), if_pos t, if_pos hn]
theorem ps_hd_k {e : Int32} {n : Nat} (h : n < 8) : ps_hd e (64 + n) = bt e n := by
  unfold ps_hd
  rw [show ((64 + n) / 64 - 1) * 8 + (64 + n) % 64 = n by omega]
theorem pv_wit {L S : Nat → Nat} {lc m : Nat} {xe ev : Int32} {aS a : Nat → Int32} (E : pv_ev S lc xe ev aS) (hL : ∀ j, j < lc → ps_fc (L j)) (ha : ∀ j, j < lc → a j = nI (ps_fs L m j)) (hk : ∀ j, j < lc → m / 2 ^ j % 2 = 1 → ∀ n, n < 8 → L j = 64 + n → bt ev n = true) : pv_ev (ps_fs L m) lc xe ev a := by
  refine ⟨ha, ?_, E.2.2.1, ?_⟩
  · intro j hj
    have l := (hL j hj).2.1
    unfold ps_fs
    split <;> omega
  · intro j hj n hn e
    by_cases b : m / 2 ^ j % 2 = 1
    · rw [ps_fs_1 b] at e
      exact hk j hj b n hn e
    · rw [ps_fs_0 b] at e
      omega
theorem ps_le_bit {m f j : Nat} (h : ps_le m f) (b : m / 2 ^ j % 2 = 1) : f / 2 ^ j % 2 = 1 := by
  have q := h j
  have := ps_b2 (f / 2 ^ j)
  omega
theorem ps_mk_t {p : Nat → Bool} {n j : Nat} (hj : j < n) (b : ps_mk p n / 2 ^ j % 2 = 1) : p j = true := by
  rw [ps_mk_b n hj] at b
  by_cases z : p j = true
  · exact z
  · rw [if_neg z] at b
    omega
section
variable {post : Int32 → Prop} {N : Nat} {xs : Nat → Int32} {J63 : Int32 → Int32 → Int32 → Int32 → Int32 → Int32 → Int32 → Int32 → Int32 → Int32 → Int32 → Int32 → (Nat → Int32) → (Nat → Int32) → (Nat → Int32) → Prop} {J467 : Int32 → Int32 → Int32 → Int32 → Int32 → Int32 → Int32 → Int32 → Int32 → Int32 → Int32 → Int32 → Int32 → (Nat → Int32) → (Nat → Int32) → (Nat → Int32) → Prop} {x1 ev : Int32} {k en st kc ks : Nat}
variable {ml kw hw aw tc lc rc ck : Nat} {xd xe : Int32} {T L S : Nat → Nat} {aS : Nat → Int32}
theorem pw_906 {sat mal : Bool} {r : Int32} (V : pv_ok T L ml kw hw aw tc lc rc) (hd : ¬ xd = 0) (hck : ck < 64) (E : pv_ev S lc xe ev aS)
    (H1 : (sat = true ∨ mal = true) → ¬ r < 1 → ps_sp T L S tc lc ck = 1)
    (H2 : sat = true → (ps_tr T tc (ps_mk (ps_ow L xe ck) lc) = true → (1 : Int32) ≤ r) ∧ (ps_tr T tc (ps_mk (ps_ow L xe ck) lc) = false → r = -1)) (hJ : J467 (nI k) ev (nI (st + 1)) (nI ml) (nI kw) (nI hw) (nI aw) (nI tc) (nI lc) (nI rc) xd xe (nI ck) (fun j => nI (T j)) (fun j => nI (L j)) aS) :
    wL_law_906 post N xs J63 J467 x1 (nI k) ev (nI lc) (lN (ps_pt T tc 0)) (lN (ps_pt T tc 1)) (lN (ps_pt T tc 2)) (lN (ps_pk L 8 0 lc)) (nI tc) (nI en) (nI st) (ps_i sat) (ps_i mal) r kc ks (nI ml) (nI kw) (nI hw) (nI aw) (nI tc) (nI lc) (nI rc) xd xe (nI ck) (fun j => nI (T j)) (fun j => nI (L j)) aS := by
  obtain ⟨v1, v2, v3, v4, v5, v6, v7, v8, -⟩ := V
  obtain ⟨e1, e2, e3, e4⟩ := E
  exact pc_906 hd v1 (by omega) v3 v7 (by omega) hck v4 v8 e1 e2 e4 H1 H2 hJ
theorem pw_0 {r : Int32} (V : pv_ok T L ml kw hw aw tc lc rc) (hd : ¬ xd = 0) (hck : ck < 64) (E : pv_ev S lc xe ev aS) (hJ : J467 (nI k) ev (nI (st + 1)) (nI ml) (nI kw) (nI hw) (nI aw) (nI tc) (nI lc) (nI rc) xd xe (nI ck) (fun j => nI (T j)) (fun j => nI (L j)) aS) : wL_law_906 post N xs J63 J467 x1 (nI k) ev (nI lc) (lN (ps_pt T tc 0)) (lN (ps_pt T tc 1)) (lN (ps_pt T tc 2)) (lN (ps_pk L 8 0 lc)) (nI tc) (nI en) (nI st) 0 0 r kc ks (nI ml) (nI kw) (nI hw) (nI aw) (nI tc) (nI lc) (nI rc) xd xe (nI ck) (fun j => nI (T j)) (fun j => nI (L j)) aS :=
  pw_906 (sat := false) (mal := false) V hd hck E (fun q => by rcases q with q | q <;> exact absurd q (by decide)) (fun q => absurd q (by decide)) hJ
theorem pa_723 {t : Nat} (V : pv_ok T L ml kw hw aw tc lc rc) (hd : ¬ xd = 0) (ht : t < 64) (E : pv_ev S lc xe ev aS)
    (hJ : ∀ (ev xe : Int32) (ck : Nat) (S : Nat → Nat) (aS : Nat → Int32), ck < 64 → pv_ev S lc xe ev aS → J467 (nI k) ev (nI (st + 1)) (nI ml) (nI kw) (nI hw) (nI aw) (nI tc) (nI lc) (nI rc) xd xe (nI ck) (fun j => nI (T j)) (fun j => nI (L j)) aS) : wL_law_723 post N xs J63 J467 x1 (nI k) ev (nI lc) (lN (ps_pt T tc 0)) (lN (ps_pt T tc 1)) (lN (ps_pt T tc 2)) (lN (ps_pk L 8 0 lc)) (nI tc) (nI en) (nI st) 0 0 0 (nI t) kc ks (nI ml) (nI kw) (nI hw) (nI aw) (nI tc) (nI lc) (nI rc) xd xe (nI ck) (fun j => nI (T j)) (fun j => nI (L j)) aS :=
  px_time ht (pw_0 V hd ht E (hJ ev xe t S aS ht E))
theorem pa_780 {c : Nat} {b : Bool} (V : pv_ok T L ml kw hw aw tc lc rc) (hd : ¬ xd = 0) (hck : ck < 64) (E : pv_ev S lc xe ev aS) (c1 : 64 ≤ c) (c2 : c < 192) (c3 : c % 64 < 8)
    (hJ : ∀ (ev xe : Int32) (ck : Nat) (S : Nat → Nat) (aS : Nat → Int32), ck < 64 → pv_ev S lc xe ev aS → J467 (nI k) ev (nI (st + 1)) (nI ml) (nI kw) (nI hw) (nI aw) (nI tc) (nI lc) (nI rc) xd xe (nI ck) (fun j => nI (T j)) (fun j => nI (L j)) aS) : wL_law_780 post N xs J63 J467 x1 (nI k) ev (nI lc) (lN (ps_pt T tc 0)) (lN (ps_pt T tc 1)) (lN (ps_pt T tc 2)) (lN (ps_pk L 8 0 lc)) (nI tc) (nI en) (nI st) (nI (c / 64)) (nI (c % 64)) (ps_i b) 0 0 0 kc ks (nI ml) (nI kw) (nI hw) (nI aw) (nI tc) (nI lc) (nI rc) xd xe (nI ck) (fun j => nI (T j)) (fun j => nI (L j)) aS := by
  obtain ⟨e1, e2, e3, e4⟩ := E
  refine px_hold c1 c2 c3 (fun r e' h1 h2 => ?_)
  have old : ∀ n, n < 8 → ¬ 64 + n = c → bt e' n = true → bt ev n = true := by
    intro n hn ne q
    rw [← ps_hd_k hn, h2 (64 + n) (by omega) (by omega) (by omega) ne, ps_hd_k hn] at q
    exact e3 n hn q
  refine pk_eq (c / 64) 1 (fun q => ?_) (fun q => ?_)
  · have hc : c = 64 + c % 64 := by omega
    by_cases hb : b = true
    · refine br_f (by rw [hb]; decide) (nm_e ?_)
      have or1 : ∀ n, n < 8 → bt ev n = true → bt (ev ||| ((1 : Int32) <<< (nI (c % 64) &&& 31))) n = true := by
        intro n hn z
        rw [b_or, z, Bool.true_or]
      have or2 : bt (ev ||| ((1 : Int32) <<< (nI (c % 64) &&& 31))) (c % 64) = true := by
        rw [b_or, ps_1sh _ (by omega) _ (by omega), decide_eq_true rfl, Bool.or_true]
      have E' : pv_ev S lc e' (ev ||| ((1 : Int32) <<< (nI (c % 64) &&& 31))) aS := by
        refine ⟨e1, e2, ?_, fun j hj n hn z => or1 n hn (e4 j hj n hn z)⟩
        intro n hn z
        by_cases w : n = c % 64
        · rw [w]
          exact or2
        · exact or1 n hn (old n hn (by omega) z)
      exact pw_0 V hd hck E' (hJ _ _ _ _ _ hck E')
    · have hb' := ps_nf hb
      refine br_t (by rw [hb']; rfl) ?_
      have E' : pv_ev S lc e' ev aS := by
        refine ⟨e1, e2, ?_, e4⟩
        intro n hn z
        by_cases w : 64 + n = c
        · rw [← ps_hd_k hn, w, h1, hb'] at z
          exact absurd z (by decide)
        · exact old n hn w z
      exact pw_0 V hd hck E' (hJ _ _ _ _ _ hck E')
  · have E' : pv_ev S lc e' ev aS := ⟨e1, e2, fun n hn z => old n hn (by omega) z, e4⟩
    exact pw_0 V hd hck E' (hJ _ _ _ _ _ hck E')
theorem pa_743 {i : Nat} {x18 x20 x21 : Int32} {b : Bool} (V : pv_ok T L ml kw hw aw tc lc rc) (hd : ¬ xd = 0) (hck : ck < 64) (E : pv_ev S lc xe ev aS) (hi : i < lc) (hk : ¬ x18 = 15 → ¬ L i / 64 = 3)
    (hJ : ∀ (ev xe : Int32) (ck : Nat) (S : Nat → Nat) (aS : Nat → Int32), ck < 64 → pv_ev S lc xe ev aS → J467 (nI k) ev (nI (st + 1)) (nI ml) (nI kw) (nI hw) (nI aw) (nI tc) (nI lc) (nI rc) xd xe (nI ck) (fun j => nI (T j)) (fun j => nI (L j)) aS) : wL_law_743 post N xs J63 J467 x1 (nI k) ev (nI lc) (lN (ps_pt T tc 0)) (lN (ps_pt T tc 1)) (lN (ps_pt T tc 2)) (lN (ps_pk L 8 0 lc)) (nI tc) (nI en) (nI st) x18 x20 x21 (nI (L i / 64)) (nI (L i % 64)) (ps_i b) 0 0 0 kc ks (nI ml) (nI kw) (nI hw) (nI aw) (nI tc) (nI lc) (nI rc) xd xe (nI ck) (fun j => nI (T j)) (fun j => nI (L j)) aS := by
  by_cases h : x18 = 15
  · refine br_t h ?_
    obtain ⟨u, hu, eu⟩ : ∃ u, u < 2 ∧ x20 &&& 1 = nI u := ⟨_, Nat.mod_lt _ (by decide), pk_and x20 1 (by decide)⟩
    obtain ⟨n, hn, en⟩ : ∃ n, n < 8 ∧ x21 &&& 7 = nI n := ⟨_, Nat.mod_lt _ (by decide), pk_and x21 3 (by decide)⟩
    have k1 : 1 + (x20 &&& 1) = nI (((1 + u) * 64 + n) / 64) := by
      have e : 1 + nI u = nI (1 + u) := nI_add 1 u
      rw [eu, e, show ((1 + u) * 64 + n) / 64 = 1 + u by omega]
    have n1 : x21 &&& 7 = nI (((1 + u) * 64 + n) % 64) := by rw [en, show ((1 + u) * 64 + n) % 64 = n by omega]
    refine nm_r k1 (nm_r n1 (br_c (fun _ => ?_) (fun _ => ?_)))
    · exact pa_780 (b := true) V hd hck E (by omega) (by omega) (by omega) hJ
    · exact pa_780 (b := false) V hd hck E (by omega) (by omega) (by omega) hJ
  · have f := V.2.2.2.2.2.2.2.1 i hi
    obtain ⟨l1, l2, l3⟩ := f
    have := hk h
    exact br_f h (pa_780 V hd hck E l1 (by omega) (l3 (by omega)) hJ)
theorem pv_put {i c : Nat} (E : pv_ev S lc xe ev aS) (hc : c < 256) (hk : ∀ n, n < 8 → c = 64 + n → bt ev n = true) : pv_ev (ps_up S i c) lc xe ev (upd aS i (nI c)) := by
  obtain ⟨e1, e2, e3, e4⟩ := E
  refine ⟨?_, ?_, e3, ?_⟩
  · intro j hj
    by_cases e : j = i
    · rw [e, pk_us, ps_up_s]
    · rw [pk_un e, ps_up_n e]
      exact e1 j hj
  · intro j hj
    by_cases e : j = i
    · rw [e, ps_up_s]
      exact hc
    · rw [ps_up_n e]
      exact e2 j hj
  · intro j hj n hn
    by_cases e : j = i
    · rw [e, ps_up_s]
      exact hk n hn
    · rw [ps_up_n e]
      exact e4 j hj n hn
theorem pa_place {i c : Nat} (V : pv_ok T L ml kw hw aw tc lc rc) (hd : ¬ xd = 0) (hck : ck < 64) (E : pv_ev S lc xe ev aS) (hi : i < lc) (hc : ps_fc c) {P : Int32 → St2 → Prop}
    (hP : ∀ (r : Int32) (S : Nat → Nat) (aS : Nat → Int32), pv_ev S lc xe ev aS → P r (nI ml, nI kw, nI hw, nI aw, nI tc, nI lc, nI rc, xd, xe, nI ck, (fun j => nI (T j)), (fun j => nI (L j)), aS)) : wpX_place P (nI ml, nI kw, nI hw, nI aw, nI tc, nI lc, nI rc, xd, xe, nI ck, (fun j => nI (T j)), (fun j => nI (L j)), aS) (nI i) (nI (c / 64)) (nI (c % 64)) := by
  have f := V.2.2.2.2.2.2.2.1 i hi
  have h8 : lc ≤ 8 := Nat.le_trans V.2.2.2.2.1 V.2.2.2.2.2.1
  refine px_place hd hi h8 hck hc f (hP _ S aS E) (fun q r => hP r (ps_up S i c) _ (pv_put E hc.2.1 (fun n hn e => ?_)))
  have z := q (by omega)
  rw [e, ps_hd_k hn] at z
  exact E.2.2.1 n hn z
theorem pa_730 {x i : Nat} {x20 x21 : Int32} {b : Bool} (V : pv_ok T L ml kw hw aw tc lc rc) (hd : ¬ xd = 0) (hck : ck < 64) (E : pv_ev S lc xe ev aS) (hi : i < lc) (hx : x < 16) (hk : x < 5 → ¬ L i / 64 = 3)
    (hJ : ∀ (ev xe : Int32) (ck : Nat) (S : Nat → Nat) (aS : Nat → Int32), ck < 64 → pv_ev S lc xe ev aS → J467 (nI k) ev (nI (st + 1)) (nI ml) (nI kw) (nI hw) (nI aw) (nI tc) (nI lc) (nI rc) xd xe (nI ck) (fun j => nI (T j)) (fun j => nI (L j)) aS) : wL_law_730 post N xs J63 J467 x1 (nI k) ev (nI lc) (lN (ps_pt T tc 0)) (lN (ps_pt T tc 1)) (lN (ps_pt T tc 2)) (lN (ps_pk L 8 0 lc)) (nI tc) (nI en) (nI st) (nI x) (nI i) x20 x21 (nI (L i / 64)) (nI (L i % 64)) (ps_i b) 0 0 0 kc ks (nI ml) (nI kw) (nI hw) (nI aw) (nI tc) (nI lc) (nI rc) xd xe (nI ck) (fun j => nI (T j)) (fun j => nI (L j)) aS := by
  have f := V.2.2.2.2.2.2.2.1
  have h8 : lc ≤ 8 := Nat.le_trans V.2.2.2.2.1 V.2.2.2.2.2.1
  have fin : ∀ (S : Nat → Nat) (aS : Nat → Int32), pv_ev S lc xe ev aS → wL_law_906 post N xs J63 J467 x1 (nI k) ev (nI lc) (lN (ps_pt T tc 0)) (lN (ps_pt T tc 1)) (lN (ps_pt T tc 2)) (lN (ps_pk L 8 0 lc)) (nI tc) (nI en) (nI st) 0 0 0 kc ks (nI ml) (nI kw) (nI hw) (nI aw) (nI tc) (nI lc) (nI rc) xd xe (nI ck) (fun j => nI (T j)) (fun j => nI (L j)) aS := fun S aS E => pw_0 V hd hck E (hJ _ _ _ _ _ hck E)
  refine pk_lt x 5 (fun q => ?_) (fun q => pk_eq x 15 (fun q2 => ?_) (fun q2 => pk_eq x 5 (fun q3 => ?_) (fun q3 => pk_le 14 x (fun q4 => br_c (fun _ => ?_) (fun _ => ?_)) (fun q4 => ?_))))
  · exact pa_743 V hd hck E hi (fun _ => hk q) hJ
  · exact pa_743 V hd hck E hi (fun z => absurd (by rw [q2]; rfl) z) hJ
  · have e : x21 &&& 63 = nI (x21.toBitVec.toNat % 2 ^ 6) := pk_and x21 6 (by decide)
    have m : x21.toBitVec.toNat % 2 ^ 6 < 64 := Nat.mod_lt _ (by decide)
    rw [e]
    exact px_time m (pw_0 V hd m E (hJ ev xe _ S aS m E))
  · exact px_place0 hd hi h8 (fin _ _ (pv_put E (by decide) (fun n hn z => by omega)))
  · refine pl_pick (by omega) (by omega) (fun j hj => pl_code h8 hj (fun i hi => (f i hi).2.1) ?_)
    have l2 := (f j hj).2.1
    rw [pl_shr6 (by omega), pl_and63]
    exact pa_place V hd hck E hi (f j hj) (fun r S aS E => fin S aS E)
  · exact pa_place V hd hck E hi (f i hi) (fun r S aS E => fin S aS E)
theorem pa_sat {z0 : Int32} {mal : Bool} (V : pv_ok T L ml kw hw aw tc lc rc) (hd : ¬ xd = 0) (hck : ck < 64) (E : pv_ev S lc xe ev aS)
    (hJ : ∀ (ev xe : Int32) (ck : Nat) (S : Nat → Nat) (aS : Nat → Int32), ck < 64 → pv_ev S lc xe ev aS → J467 (nI k) ev (nI (st + 1)) (nI ml) (nI kw) (nI hw) (nI aw) (nI tc) (nI lc) (nI rc) xd xe (nI ck) (fun j => nI (T j)) (fun j => nI (L j)) aS) {P : Int32 → St2 → Prop}
    (hP : ∀ (r : Int32) (aS : Nat → Int32), wL_law_906 post N xs J63 J467 x1 (nI k) ev (nI lc) (lN (ps_pt T tc 0)) (lN (ps_pt T tc 1)) (lN (ps_pt T tc 2)) (lN (ps_pk L 8 0 lc)) (nI tc) (nI en) (nI st) (ps_i true) (ps_i mal) r kc ks (nI ml) (nI kw) (nI hw) (nI aw) (nI tc) (nI lc) (nI rc) xd xe (nI ck) (fun j => nI (T j)) (fun j => nI (L j)) aS → P r (nI ml, nI kw, nI hw, nI aw, nI tc, nI lc, nI rc, xd, xe, nI ck, (fun j => nI (T j)), (fun j => nI (L j)), aS)) : wpX_satisfy P (nI ml, nI kw, nI hw, nI aw, nI tc, nI lc, nI rc, xd, xe, nI ck, (fun j => nI (T j)), (fun j => nI (L j)), aS) := by
  obtain ⟨v1, v2, v3, v4, v5, v6, v7, v8, w1, w2, w3, w4, w5, w6⟩ := id V
  have hl8 : lc ≤ 8 := by omega
  have h8 := ps_p8 hl8
  have fl := ps_mk_lt (ps_ow L xe ck) lc
  have mi := ps_bs_min (fun s => ps_sb s (ps_mk (ps_ow L xe ck) lc) && ps_tr T tc s) (fun s => ps_wt (ps_w kw hw aw) L s lc) (2 ^ lc)
  have bi := ps_bs_in (fun s => ps_sb s (ps_mk (ps_ow L xe ck) lc) && ps_tr T tc s) (fun s => ps_wt (ps_w kw hw aw) L s lc) (2 ^ lc)
  have bm := ps_best_min (T := T) (L := L) (tc := tc) hl8 fl (ps_w_ge w1 w3 w5)
  generalize em : ps_bs (fun s => ps_sb s (ps_mk (ps_ow L xe ck) lc) && ps_tr T tc s) (fun s => ps_wt (ps_w kw hw aw) L s lc) (2 ^ lc) = m at *
  refine px_satisfy hd v1 (by omega) v7 hl8 hck v8 w2 w4 w6 em (by omega) (fun z => hP _ _ ?_) (fun z a ha => hP _ _ ?_)
  · refine pw_906 V hd hck E (fun _ q => absurd (show (-1 : Int32) < 1 by decide) q) (fun _ => ⟨fun q => ?_, fun _ => rfl⟩) (hJ _ _ _ _ _ hck E)
    exfalso
    have f0 : 0 < ps_mk (ps_ow L xe ck) lc := by
      refine Nat.pos_of_ne_zero fun q0 => ?_
      rw [q0, ps_tr0] at q
      exact absurd q (by decide)
    exact (mi _ f0 fl (by rw [ps_le_sb (fun _ => Nat.le_refl _), q]; rfl)).1 z
  · obtain ⟨b1, b2⟩ : m < 2 ^ lc ∧ (ps_sb m (ps_mk (ps_ow L xe ck) lc) && ps_tr T tc m) = true := by
      rcases bi with q | q
      · exact absurd q z
      · exact q
    rw [Bool.and_eq_true] at b2
    have le := ps_sb_le (by omega) (by omega) b2.1
    have ow : ∀ j, j < lc → m / 2 ^ j % 2 = 1 → ps_ow L xe ck j = true := fun j hj b => ps_mk_t hj (ps_le_bit le b)
    have wp : 1 ≤ ps_wt (ps_w kw hw aw) L m lc := ps_wt_pos (ps_w_ge w1 w3 w5) lc (ps_some lc b1 z)
    have wl := ps_wt_le (L := L) (s := m) (ps_w_le w2 w4 w6) lc
    have E' : pv_ev (ps_fs L m) lc xe ev a := by
      refine pv_wit E v8 ha (fun j hj b n hn e => ?_)
      have o := ow j hj b
      rw [ps_ow, if_neg (by omega), e, ps_hd_k hn] at o
      exact E.2.2.1 n hn o
    refine pw_906 V hd hck E' (fun _ _ => ?_) (fun _ => ⟨fun _ => nI_le (a := 1) wp (by omega), fun q => ?_⟩) (hJ _ _ _ _ _ hck E')
    · refine ps_fs_sp v8 b1 (fun j hj b t => ?_) (bm z)
      have o := ow j hj b
      rw [ps_ow, if_pos t] at o
      exact of_decide_eq_true o
    · rw [ps_tr_mono v1 v3 le b2.2] at q
      exact absurd q (by decide)
theorem pa_mal (V : pv_ok T L ml kw hw aw tc lc rc) (hd : ¬ xd = 0) (hck : ck < 64) (E : pv_ev S lc xe ev aS)
    (hJ : ∀ (ev xe : Int32) (ck : Nat) (S : Nat → Nat) (aS : Nat → Int32), ck < 64 → pv_ev S lc xe ev aS → J467 (nI k) ev (nI (st + 1)) (nI ml) (nI kw) (nI hw) (nI aw) (nI tc) (nI lc) (nI rc) xd xe (nI ck) (fun j => nI (T j)) (fun j => nI (L j)) aS) {P : Int32 → St2 → Prop}
    (hP : ∀ (r : Int32) (aS : Nat → Int32), wL_law_906 post N xs J63 J467 x1 (nI k) ev (nI lc) (lN (ps_pt T tc 0)) (lN (ps_pt T tc 1)) (lN (ps_pt T tc 2)) (lN (ps_pk L 8 0 lc)) (nI tc) (nI en) (nI st) (ps_i false) (ps_i true) r kc ks (nI ml) (nI kw) (nI hw) (nI aw) (nI tc) (nI lc) (nI rc) xd xe (nI ck) (fun j => nI (T j)) (fun j => nI (L j)) aS → P r (nI ml, nI kw, nI hw, nI aw, nI tc, nI lc, nI rc, xd, xe, nI ck, (fun j => nI (T j)), (fun j => nI (L j)), aS)) : wpX_malleate P (nI ml, nI kw, nI hw, nI aw, nI tc, nI lc, nI rc, xd, xe, nI ck, (fun j => nI (T j)), (fun j => nI (L j)), aS) := by
  obtain ⟨v1, v2, v3, v4, v5, v6, v7, v8, w1, w2, w3, w4, w5, w6⟩ := id V
  have hl8 : lc ≤ 8 := by omega
  have h8 := ps_p8 hl8
  have fl := ps_mk_lt (ps_on L S ck lc) lc
  have bi := ps_bs_in (ps_gm T tc lc (ps_mk (ps_on L S ck lc) lc) (ps_mk (ps_fl S) lc)) (fun s => ps_wt (ps_w kw hw aw) L s lc) (2 ^ lc)
  generalize em : ps_bs (ps_gm T tc lc (ps_mk (ps_on L S ck lc) lc) (ps_mk (ps_fl S) lc)) (fun s => ps_wt (ps_w kw hw aw) L s lc) (2 ^ lc) = m at *
  refine px_malleate (S := S) hd v1 (by omega) v7 hl8 hck E.1 E.2.1 v8 w2 w4 w6 em (by omega) (fun z => hP _ _ ?_) (fun z a ha => hP _ _ ?_)
  · exact pw_906 V hd hck E (fun _ q => absurd (show (-1 : Int32) < 1 by decide) q) (fun q => absurd q (by decide)) (hJ _ _ _ _ _ hck E)
  · obtain ⟨b1, b2⟩ : m < 2 ^ lc ∧ ps_gm T tc lc (ps_mk (ps_on L S ck lc) lc) (ps_mk (ps_fl S) lc) m = true := by
      rcases bi with q | q
      · exact absurd q z
      · exact q
    rw [ps_gm, Bool.and_eq_true, Bool.and_eq_true] at b2
    have le := ps_sb_le (by omega) (by omega) b2.2.1
    have on : ∀ j, j < lc → m / 2 ^ j % 2 = 1 → ps_on L S ck lc j = true := fun j hj b => ps_mk_t hj (ps_le_bit le b)
    have E' : pv_ev (ps_fs L m) lc xe ev a := by
      refine pv_wit E v8 ha (fun j hj b n hn e => ?_)
      have o := on j hj b
      rw [ps_on, if_pos (by omega)] at o
      have ex : ∃ q, q < lc ∧ S q = L j := by
        refine Classical.byContradiction fun ne => ?_
        rw [ps_ex_no (p := ps_in S (L j)) lc (fun q hq => decide_eq_false (fun w => ne ⟨q, hq, w⟩))] at o
        exact absurd o (by decide)
      obtain ⟨q, hq, w⟩ := ex
      exact E.2.2.2 q hq n hn (w.trans e)
    refine pw_906 V hd hck E' (fun _ _ => ?_) (fun q => absurd q (by decide)) (hJ _ _ _ _ _ hck E')
    refine ps_fs_sp v8 b1 (fun j hj b t => ?_) b2.2.2
    have o := on j hj b
    rw [ps_on, if_neg (by omega), if_neg (by omega)] at o
    exact of_decide_eq_true o
theorem pa_658 {x i : Nat} {x20 x21 : Int32} {b sat mal : Bool} (V : pv_ok T L ml kw hw aw tc lc rc) (hd : ¬ xd = 0) (hck : ck < 64) (E : pv_ev S lc xe ev aS) (hi : i < lc) (hx : x < 16)
    (hJ : ∀ (ev xe : Int32) (ck : Nat) (S : Nat → Nat) (aS : Nat → Int32), ck < 64 → pv_ev S lc xe ev aS → J467 (nI k) ev (nI (st + 1)) (nI ml) (nI kw) (nI hw) (nI aw) (nI tc) (nI lc) (nI rc) xd xe (nI ck) (fun j => nI (T j)) (fun j => nI (L j)) aS) : wL_law_658 post N xs J63 J467 x1 (nI k) ev (nI lc) (lN (ps_pt T tc 0)) (lN (ps_pt T tc 1)) (lN (ps_pt T tc 2)) (lN (ps_pk L 8 0 lc)) (nI tc) (nI en) (nI st) (nI x) (nI i) x20 x21 (nI (L i / 64)) (nI (L i % 64)) (ps_i b) (ps_i sat) (ps_i mal) kc ks (nI ml) (nI kw) (nI hw) (nI aw) (nI tc) (nI lc) (nI rc) xd xe (nI ck) (fun j => nI (T j)) (fun j => nI (L j)) aS := by
  have f := V.2.2.2.2.2.2.2.1 i hi
  have l2 := f.2.1
  cases sat with
  | true =>
    refine br_f (by decide) ?_
    exact pa_sat (z0 := 0) V hd hck E hJ (fun r aS h => h)
  | false =>
    refine br_t rfl ?_
    cases mal with
    | true =>
      refine br_f (by decide) ?_
      exact pa_mal V hd hck E hJ (fun r aS h => h)
    | false =>
      refine br_t rfl (pk_le 5 x (fun q => ?_) (fun q => pk_eq (L i / 64) 3 (fun q2 => ?_) (fun q2 => ?_)))
      · exact pa_730 V hd hck E hi hx (fun z => by omega) hJ
      · refine br_c (fun _ => pk_eq (L i % 64) 0 (fun q3 => ?_) (fun q3 => ?_)) (fun _ => ?_)
        · exact pa_723 V hd (Nat.mod_lt _ (by decide)) E hJ
        · have e : nI (L i % 64) - 1 = nI (L i % 64 - 1) := pk_sub (b := 1) (by omega)
          rw [e]
          exact pa_723 V hd (by omega) E hJ
        · exact pa_723 V hd (Nat.mod_lt _ (by decide)) E hJ
      · exact pa_730 V hd hck E hi hx (fun _ => q2) hJ
theorem pa_637 {x i : Nat} {x20 x21 : Int32} {b sat : Bool} (V : pv_ok T L ml kw hw aw tc lc rc) (hd : ¬ xd = 0) (hck : ck < 64) (E : pv_ev S lc xe ev aS) (hi : i < lc) (hx : x < 16)
    (hJ : ∀ (ev xe : Int32) (ck : Nat) (S : Nat → Nat) (aS : Nat → Int32), ck < 64 → pv_ev S lc xe ev aS → J467 (nI k) ev (nI (st + 1)) (nI ml) (nI kw) (nI hw) (nI aw) (nI tc) (nI lc) (nI rc) xd xe (nI ck) (fun j => nI (T j)) (fun j => nI (L j)) aS) : wL_law_637 post N xs J63 J467 x1 (nI k) ev (nI lc) (lN (ps_pt T tc 0)) (lN (ps_pt T tc 1)) (lN (ps_pt T tc 2)) (lN (ps_pk L 8 0 lc)) (nI tc) (nI en) (nI st) (nI x) (nI i) x20 x21 (nI (L i / 64)) (nI (L i % 64)) (ps_i b) (ps_i sat) kc ks (nI ml) (nI kw) (nI hw) (nI aw) (nI tc) (nI lc) (nI rc) xd xe (nI ck) (fun j => nI (T j)) (fun j => nI (L j)) aS :=
  br_c (fun _ => pa_658 (mal := true) V hd hck E hi hx hJ) (fun _ => br_c (fun _ => pa_658 (mal := true) V hd hck E hi hx hJ) (fun _ => pa_658 (mal := false) V hd hck E hi hx hJ))
theorem pa_616 {x i : Nat} {x20 x21 : Int32} {b : Bool} (V : pv_ok T L ml kw hw aw tc lc rc) (hd : ¬ xd = 0) (hck : ck < 64) (E : pv_ev S lc xe ev aS) (hi : i < lc) (hx : x < 16)
    (hJ : ∀ (ev xe : Int32) (ck : Nat) (S : Nat → Nat) (aS : Nat → Int32), ck < 64 → pv_ev S lc xe ev aS → J467 (nI k) ev (nI (st + 1)) (nI ml) (nI kw) (nI hw) (nI aw) (nI tc) (nI lc) (nI rc) xd xe (nI ck) (fun j => nI (T j)) (fun j => nI (L j)) aS) : wL_law_616 post N xs J63 J467 x1 (nI k) ev (nI lc) (lN (ps_pt T tc 0)) (lN (ps_pt T tc 1)) (lN (ps_pt T tc 2)) (lN (ps_pk L 8 0 lc)) (nI tc) (nI en) (nI st) (nI x) (nI i) x20 x21 (nI (L i / 64)) (nI (L i % 64)) (ps_i b) kc ks (nI ml) (nI kw) (nI hw) (nI aw) (nI tc) (nI lc) (nI rc) xd xe (nI ck) (fun j => nI (T j)) (fun j => nI (L j)) aS :=
  br_c (fun _ => pa_637 (sat := false) V hd hck E hi hx hJ) (fun _ => br_c (fun _ => pa_637 (sat := false) V hd hck E hi hx hJ) (fun _ => pa_637 (sat := true) V hd hck E hi hx hJ))
theorem pa_580 {x i : Nat} {x20 x21 : Int32} (V : pv_ok T L ml kw hw aw tc lc rc) (hd : ¬ xd = 0) (hck : ck < 64) (E : pv_ev S lc xe ev aS) (hi : i < lc) (hx : x < 16)
    (hJ : ∀ (ev xe : Int32) (ck : Nat) (S : Nat → Nat) (aS : Nat → Int32), ck < 64 → pv_ev S lc xe ev aS → J467 (nI k) ev (nI (st + 1)) (nI ml) (nI kw) (nI hw) (nI aw) (nI tc) (nI lc) (nI rc) xd xe (nI ck) (fun j => nI (T j)) (fun j => nI (L j)) aS) : wL_law_580 post N xs J63 J467 x1 (nI k) ev (nI lc) (lN (ps_pt T tc 0)) (lN (ps_pt T tc 1)) (lN (ps_pt T tc 2)) (lN (ps_pk L 8 0 lc)) (nI tc) (nI en) (nI st) (nI x) (nI i) x20 x21 kc ks (nI ml) (nI kw) (nI hw) (nI aw) (nI tc) (nI lc) (nI rc) xd xe (nI ck) (fun j => nI (T j)) (fun j => nI (L j)) aS := by
  have f := V.2.2.2.2.2.2.2.1
  have h8 : lc ≤ 8 := Nat.le_trans V.2.2.2.2.1 V.2.2.2.2.2.1
  have l2 := (f i hi).2.1
  refine pl_code h8 hi (fun i hi => (f i hi).2.1) (nm_r (pl_shr6 (by omega)) (nm_r (pl_and63 _) (br_c (fun _ => ?_) (fun _ => ?_))))
  · exact pa_616 (b := false) V hd hck E hi hx hJ
  · exact pa_616 (b := true) V hd hck E hi hx hJ
end
end
section
theorem pl_cellx {post : Int32 → Prop} {N : Nat} {xs : Nat → Int32} {x : Int32} (k : Nat) (hx : x = nI k) (hN : N < 2 ^ 31) (hk : k < 2 ^ 31) (hp : ∀ r, post r) : wpL_cell post N xs () x := by
  subst hx
  exact pl_cell hN hk hp
theorem pl_pickx {post : Int32 → Prop} {c x : Int32} (m : Nat) (hx : x = nI m) (h0 : 0 < m) (hm : m < 2 ^ 31) (hp : ∀ j, j < m → post (nI j)) : wpL_pick post () c x := by
  subst hx
  exact pl_pick h0 hm hp
theorem pl_2 (k : Nat) : nI k + 2 = nI (k + 2) := nI_add k 2
theorem pl_3 (k : Nat) : nI k + 3 = nI (k + 3) := nI_add k 3
theorem pl_a1 (k : Nat) : 1 + nI k = nI (1 + k) := nI_add 1 k
theorem pl_a2 (k : Nat) : 2 + nI k = nI (2 + k) := nI_add 2 k
theorem ps_pt0 (T : Nat → Nat) (p : Nat) : ps_pt T 0 p = 0 := by
  unfold ps_pt
  rw [show min (0 - 7 * p) 7 = 0 by omega]
  rfl
def pv_dr (T L : Nat → Nat) (ml kw hw aw tc lc rc : Nat) : Prop := ps_ok T tc ∧ ps_lk T tc = lc ∧ ps_dp T tc = rc ∧ lc ≤ ml ∧ ml ≤ 8 ∧ tc + rc ≤ 2 * lc ∧ tc ≤ 15 ∧ (∀ j, j < lc → ps_fc (L j)) ∧ 1 ≤ kw ∧ kw ≤ 99 ∧ 1 ≤ hw ∧ hw ≤ 99 ∧ 1 ≤ aw ∧ aw ≤ 99
section
variable {post : Int32 → Prop} {N : Nat} {xs : Nat → Int32} {J63 : Int32 → Int32 → Int32 → Int32 → Int32 → Int32 → Int32 → Int32 → Int32 → Int32 → Int32 → Int32 → (Nat → Int32) → (Nat → Int32) → (Nat → Int32) → Prop} {J104 : Int32 → Int64 → Int64 → Int64 → Int64 → Int32 → Int32 → Int32 → Int32 → Int32 → Int32 → Int32 → Int32 → Int32 → Int32 → Int32 → Int32 → Int32 → (Nat → Int32) → (Nat → Int32) → (Nat → Int32) → Prop} {J288 : Int32 → Int64 → Int64 → Int64 → Int32 → Int32 → Int32 → Int32 → Int32 → Int32 → Int32 → Int32 → Int32 → Int32 → Int32 → Int32 → Int32 → (Nat → Int32) → (Nat → Int32) → (Nat → Int32) → Prop} {x1 ev : Int32} {kc ks k0 : Nat}
variable {ml kw hw aw : Nat} {xe : Int32}
theorem pl_467 {T L : Nat → Nat} {tc lc rc en : Nat} {xd : Int32} (V : pv_ok T L ml kw hw aw tc lc rc) (hd : ¬ xd = 0) (h1 : 1 ≤ lc) (hN : N < 2 ^ 31) (hen : en < 2 ^ 20) (hpost : post 1)
    (hJ : ∀ (k : Nat) (ev xe : Int32) (ck : Nat) (S : Nat → Nat) (aS : Nat → Int32), k0 < k → k < N → ck < 64 → pv_ev S lc xe ev aS → J63 (nI k) ev (nI ml) (nI kw) (nI hw) (nI aw) (nI tc) (nI lc) (nI rc) xd xe (nI ck) (fun j => nI (T j)) (fun j => nI (L j)) aS) :
    ∀ (d st k : Nat) (ev xe : Int32) (ck : Nat) (S : Nat → Nat) (aS : Nat → Int32), st + d = en + 3 → k0 < k → k + 3 * d < 2 ^ 30 → ck < 64 → pv_ev S lc xe ev aS →
      wL_law_467 post N xs J63 x1 (nI lc) (lN (ps_pt T tc 0)) (lN (ps_pt T tc 1)) (lN (ps_pt T tc 2)) (lN (ps_pk L 8 0 lc)) (nI tc) (nI en) kc ks (d + 1) (nI k) ev (nI st) (nI ml) (nI kw) (nI hw) (nI aw) (nI tc) (nI lc) (nI rc) xd xe (nI ck) (fun j => nI (T j)) (fun j => nI (L j)) aS := by
  have h8 : lc ≤ 8 := Nat.le_trans V.2.2.2.2.1 V.2.2.2.2.2.1
  intro d
  induction d with
  | zero =>
    intro st k ev xe ck S aS hs hk hb hck E
    refine pk_le (en + 3) st (fun _ => pk_lt k N (fun q => hJ k ev xe ck S aS hk q hck E) (fun _ => hpost)) (fun q => ?_) (pl_3 en) rfl
    omega
  | succ d ih =>
    intro st k ev xe ck S aS hs hk hb hck E
    have n : ∀ k', k < k' + 1 → k' + 3 * d < 2 ^ 30 → ∀ (ev xe : Int32) (ck : Nat) (S : Nat → Nat) (aS : Nat → Int32), ck < 64 → pv_ev S lc xe ev aS → wL_law_467 post N xs J63 x1 (nI lc) (lN (ps_pt T tc 0)) (lN (ps_pt T tc 1)) (lN (ps_pt T tc 2)) (lN (ps_pk L 8 0 lc)) (nI tc) (nI en) kc ks (d + 1) (nI k') ev (nI (st + 1)) (nI ml) (nI kw) (nI hw) (nI aw) (nI tc) (nI lc) (nI rc) xd xe (nI ck) (fun j => nI (T j)) (fun j => nI (L j)) aS :=
      fun k' a b ev xe ck S aS c e => ih (st + 1) k' ev xe ck S aS (by omega) (by omega) b c e
    refine pk_le (en + 3) st (fun q => ?_) (fun q => pk_le lc st (fun q2 => pk_le en st (fun q3 => pk_eq st en (fun q4 => ?_) (fun q4 => ?_)) (fun q3 => ?_)) (fun q2 => ?_)) (pl_3 en) rfl
    · omega
    · exact pa_580 (x := 6) (i := 0) V hd hck E (by omega) (by decide) (n k (by omega) (by omega))
    · exact pa_580 (x := 9) (i := 0) V hd hck E (by omega) (by decide) (n k (by omega) (by omega))
    · refine pl_cell hN (by omega) (fun r1 => pl_pickx 16 rfl (by decide) (by decide) (fun x hx => pl_cellx (k + 1) (nI_1 k) hN (by omega) (fun r2 => pl_cellx (k + 2) (pl_2 k) hN (by omega) (fun r3 => pl_pick (by omega) (by omega) (fun i hi => nm_r (pl_3 k) ?_)))))
      exact pa_580 V hd hck E hi hx (n (k + 3) (by omega) (by omega))
    · refine nm_r (nI_1 k) (pl_cell hN (by omega) (fun r1 => ?_))
      exact pa_580 (x := 0) (i := st) V hd hck E q2 (by decide) (n (k + 1) (by omega) (by omega))
theorem pv_join {T L : Nat → Nat} {tc lc rc a b : Nat} (h : pv_dr T L ml kw hw aw tc lc rc) (h1 : 1 ≤ a) (h2 : a ≤ b) (h3 : 2 ≤ b) (h4 : b ≤ 8) (h5 : b ≤ rc) : pv_dr (ps_up T tc (256 + (a - 1) * 8 + (b - 1))) L ml kw hw aw (tc + 1) lc (rc - b + 1) := by
  obtain ⟨ok, lk, dp, a1, a2, a3, a4, r⟩ := h
  have e : (256 + (a - 1) * 8 + (b - 1) - 256) % 8 = b - 1 := by omega
  refine ⟨ps_ok_up ok (by omega) (fun q => by rw [e, dp]; omega), ?_, ?_, a1, a2, by omega, by omega, r⟩
  · rw [ps_lk_up, if_neg (by omega), lk]
  · rw [ps_dp_up, if_neg (by omega), dp, e]
    omega
theorem pv_lock {T L : Nat → Nat} {tc lc rc c : Nat} (h : pv_dr T L ml kw hw aw tc lc rc) (hc : ps_fc c) (hl : lc < ml) : pv_dr (ps_up T tc c) (ps_up L lc c) ml kw hw aw (tc + 1) (lc + 1) (rc + 1) := by
  obtain ⟨ok, lk, dp, a1, a2, a3, a4, hL, r⟩ := h
  have c2 := hc.2.1
  refine ⟨ps_ok_up ok (by omega) (fun q => by omega), ?_, ?_, by omega, a2, by omega, by omega, ?_, r⟩
  · rw [ps_lk_up, if_pos c2, lk]
  · rw [ps_dp_up, if_pos c2, dp]
  · intro j hj
    by_cases e : j = lc
    · rw [e, ps_up_s]
      exact hc
    · rw [ps_up_n e]
      exact hL j (by omega)
theorem pv_T {T L : Nat → Nat} {tc lc rc : Nat} (h : pv_dr T L ml kw hw aw tc lc rc) : ∀ j, j < tc → T j < 512 := fun j hj => by
  have := (h.1 j hj).1
  omega
theorem pl_put3 {T : Nat → Nat} {tc c : Nat} {Q : Int64 → Int64 → Int64 → Prop} (htc : tc < 21) (hT : ∀ j, j < tc → T j < 512) (hc : c < 512)
    (hQ : Q (lN (ps_pt (ps_up T tc c) (tc + 1) 0)) (lN (ps_pt (ps_up T tc c) (tc + 1) 1)) (lN (ps_pt (ps_up T tc c) (tc + 1) 2))) :
    wpL_put (fun r0 => wpL_put (fun r1 => wpL_put (fun r2 => Q r0 r1 r2) () (lN (ps_pt T tc 2)) 2 (nI tc) (nI c)) () (lN (ps_pt T tc 1)) 1 (nI tc) (nI c)) () (lN (ps_pt T tc 0)) 0 (nI tc) (nI c) :=
  pl_put (p := 0) htc (by decide) hT hc (pl_put (p := 1) htc (by decide) hT hc (pl_put (p := 2) htc (by decide) hT hc hQ))
theorem pl_316 {T L : Nat → Nat} {tc lc rc ck want i k r : Nat} {xd x20 x22 : Int32} {aS : Nat → Int32} {codes : Int64} (D : pv_dr T L ml kw hw aw tc lc rc) (hd : xd = 0) (hN : N < 2 ^ 31) (hk : k < 2 ^ 30) (h2 : 2 ≤ rc) (hr : rc ≤ 8)
    (hJ : ∀ (T : Nat → Nat) (rc' : Nat), pv_dr T L ml kw hw aw (tc + 1) lc rc' → 1 ≤ rc' → rc' + 1 ≤ rc → J288 (nI (k + 2)) (lN (ps_pt T (tc + 1) 0)) (lN (ps_pt T (tc + 1) 1)) (lN (ps_pt T (tc + 1) 2)) (nI (tc + 1)) (nI rc') (nI (r + 1)) (nI ml) (nI kw) (nI hw) (nI aw) (nI (tc + 1)) (nI lc) (nI rc') xd xe (nI ck) (fun j => nI (T j)) (fun j => nI (L j)) aS) :
    wL_law_316 post N xs J63 J104 J288 x1 (nI k) ev (nI want) (lN (ps_pt T tc 0)) (lN (ps_pt T tc 1)) (lN (ps_pt T tc 2)) codes (nI tc) (nI rc) (nI i) x20 x22 (nI r) kc ks (nI ml) (nI kw) (nI hw) (nI aw) (nI tc) (nI lc) (nI rc) xd xe (nI ck) (fun j => nI (T j)) (fun j => nI (L j)) aS := by
  obtain ⟨ok, lk, dp, a1, a2, a3, a4, hL, _⟩ := id D
  have e1 : nI rc - 1 = nI (rc - 1) := pk_sub (b := 1) (by omega)
  refine pl_cell hN (by omega) (fun r1 => pl_pickx (rc - 1) e1 (by omega) (by omega) (fun j hj => nm_r (pl_a2 j) (pl_cellx (k + 1) (nI_1 k) hN (by omega) (fun r2 => pl_pick (by omega) (by omega) (fun q hq => nm_r (pl_a1 q) (nm_r (pl_2 k) ?_))))))
  refine px_joinok (k := 1 + q) (n := 2 + j) hd (by omega) (by omega) (by omega) (by omega) (by omega) hr (by omega) ?_
  have ec : (256 + (nI (1 + q) - 1) * 8) + (nI (2 + j) - 1) = nI (256 + (1 + q - 1) * 8 + (2 + j - 1)) := by
    have e1 : nI (1 + q) - 1 = nI (1 + q - 1) := pk_sub (b := 1) (by omega)
    have e2 : nI (2 + j) - 1 = nI (2 + j - 1) := pk_sub (b := 1) (by omega)
    have e3 : nI (1 + q - 1) * 8 = nI ((1 + q - 1) * 8) := pk_mul _ 8
    have e4 : 256 + nI ((1 + q - 1) * 8) = nI (256 + (1 + q - 1) * 8) := nI_add 256 _
    rw [e1, e2, e3, e4, nI_add]
  have er : nI rc - (nI (2 + j) - 1) = nI (rc - (2 + j) + 1) := by
    have e2 : nI (2 + j) - 1 = nI (2 + j - 1) := pk_sub (b := 1) (by omega)
    rw [e2, pk_sub (by omega)]
    exact congrArg nI (by omega)
  refine nm_r ec (pl_put3 (by omega) (pv_T D) (by omega) (nm_r (nI_1 tc) (nm_r er (nm_r (nI_1 r) ?_))))
  exact hJ _ (rc - (2 + j) + 1) (pv_join D (by omega) (by omega) (by omega) (by omega) (by omega)) (by omega) (by omega)
theorem pl_288 {L : Nat → Nat} {lc ck want i K : Nat} {xd x20 : Int32} {aS : Nat → Int32} {codes : Int64} {last : Bool} (hd : xd = 0) (hN : N < 2 ^ 31) (hK : K < 2 ^ 29) (hi : i < 2 ^ 20)
    (hJ : ∀ (T : Nat → Nat) (tc rc k : Nat), pv_dr T L ml kw hw aw tc lc rc → 1 ≤ rc → (last = true → rc = 1) → k0 < k → k ≤ K → J104 (nI k) (lN (ps_pt T tc 0)) (lN (ps_pt T tc 1)) (lN (ps_pt T tc 2)) codes (nI tc) (nI rc) (nI (i + 1)) (nI ml) (nI kw) (nI hw) (nI aw) (nI tc) (nI lc) (nI rc) xd xe (nI ck) (fun j => nI (T j)) (fun j => nI (L j)) aS) :
    ∀ (d r k : Nat) (T : Nat → Nat) (tc rc : Nat), r + d = 7 → pv_dr T L ml kw hw aw tc lc rc → 1 ≤ rc → rc + r ≤ 8 → k0 < k → k + 2 * d ≤ K →
      wL_law_288 post N xs J63 J104 x1 ev (nI want) codes (nI i) x20 (ps_i last) kc ks (d + 1) (nI k) (lN (ps_pt T tc 0)) (lN (ps_pt T tc 1)) (lN (ps_pt T tc 2)) (nI tc) (nI rc) (nI r) (nI ml) (nI kw) (nI hw) (nI aw) (nI tc) (nI lc) (nI rc) xd xe (nI ck) (fun j => nI (T j)) (fun j => nI (L j)) aS := by
  intro d
  induction d with
  | zero =>
    intro r k T tc rc hr D h1 h8 hk hb
    refine br_t (nI_le (a := 7) (by omega) (by omega)) (nm_r (nI_1 i) (hJ T tc rc k D h1 (fun _ => by omega) hk (by omega)))
  | succ d ih =>
    intro r k T tc rc hr D h1 h8 hk hb
    have g : 2 ≤ rc → wL_law_316 post N xs J63 J104 (wL_law_288 post N xs J63 J104 x1 ev (nI want) codes (nI i) x20 (ps_i last) kc ks (d + 1)) x1 (nI k) ev (nI want) (lN (ps_pt T tc 0)) (lN (ps_pt T tc 1)) (lN (ps_pt T tc 2)) codes (nI tc) (nI rc) (nI i) x20 (ps_i last) (nI r) kc ks (nI ml) (nI kw) (nI hw) (nI aw) (nI tc) (nI lc) (nI rc) xd xe (nI ck) (fun j => nI (T j)) (fun j => nI (L j)) aS :=
      fun q => pl_316 D hd hN (by omega) q (by omega) (fun T' rc' D' a b => ih (r + 1) (k + 2) T' (tc + 1) rc' (by omega) D' a (by omega) (by omega) (by omega))
    refine br_f (nI_ge (b := 7) (by omega) (by decide)) (pk_lt rc 2 (fun q => ?_) (fun q => ek_if (ps_i0 last) (fun z => pk_eq r 0 (fun q2 => br_c (fun _ => ?_) (fun _ => g q)) (fun q2 => ?_)) (fun z => g q)))
    · exact nm_r (nI_1 i) (hJ T tc rc k D h1 (fun _ => by omega) hk (by omega))
    · exact nm_r (nI_1 i) (hJ T tc rc k D h1 (fun w => absurd w (by rw [z]; decide)) hk (by omega))
    · exact nm_r (nI_1 i) (hJ T tc rc k D h1 (fun w => absurd w (by rw [z]; decide)) hk (by omega))
theorem pl_189 {T L : Nat → Nat} {tc lc rc ck want c k : Nat} {xd z0 : Int32} {aS : Nat → Int32} (D : pv_dr T L ml kw hw aw tc lc rc) (hd : xd = 0) (hN : N < 2 ^ 31) (hc : ps_fc c) (hl : lc < want) (hw8 : want ≤ ml) (hk : k0 < k) (hk2 : k < 2 ^ 28)
    (hJ : ∀ (T L : Nat → Nat) (tc rc k' : Nat), pv_dr T L ml kw hw aw tc (lc + 1) rc → 1 ≤ rc → (lc + 1 = want → rc = 1) → k0 < k' → k' ≤ k + 17 → J104 (nI k') (lN (ps_pt T tc 0)) (lN (ps_pt T tc 1)) (lN (ps_pt T tc 2)) (lN (ps_pk L 8 0 (lc + 1))) (nI tc) (nI rc) (nI (lc + 1)) (nI ml) (nI kw) (nI hw) (nI aw) (nI tc) (nI (lc + 1)) (nI rc) xd xe (nI ck) (fun j => nI (T j)) (fun j => nI (L j)) aS) :
    wL_law_189 post N xs J63 J104 x1 (nI k) ev (nI want) (lN (ps_pt T tc 0)) (lN (ps_pt T tc 1)) (lN (ps_pt T tc 2)) (lN (ps_pk L 8 0 lc)) (nI tc) (nI rc) (nI lc) (nI (c / 64)) (nI (c % 64)) z0 kc ks (nI ml) (nI kw) (nI hw) (nI aw) (nI tc) (nI lc) (nI rc) xd xe (nI ck) (fun j => nI (T j)) (fun j => nI (L j)) aS := by
  obtain ⟨ok, lk, dp, a1, a2, a3, a4, hL, _⟩ := id D
  have c2 := hc.2.1
  have rl := ps_dp_lk T tc
  have D' := pv_lock D hc (by omega)
  refine nm_r (pl_3 k) (nm_r (px_cd c) (px_lock hd hc (by omega) a2 (by omega) (nm_r (pl_codes (by omega) (fun j hj => (hL j hj).2.1) c2) (pl_put3 (by omega) (pv_T D) (by omega) (nm_r (nI_1 tc) (nm_r (nI_1 rc) ?_))))))
  have e1 : nI want - 1 = nI (want - 1) := pk_sub (b := 1) (by omega)
  rw [e1]
  refine pk_eq lc (want - 1) (fun q => ?_) (fun q => ?_)
  · exact ⟨8, pl_288 (last := true) (K := k + 17) hd hN (by omega) (by omega) (fun T' tc' rc' k' d1 d2 d3 d4 d5 => hJ T' _ tc' rc' k' d1 d2 (fun _ => d3 rfl) d4 d5) 7 0 (k + 3) _ (tc + 1) (rc + 1) rfl D' (by omega) (by omega) (by omega) (by omega)⟩
  · exact ⟨8, pl_288 (last := false) (K := k + 17) hd hN (by omega) (by omega) (fun T' tc' rc' k' d1 d2 d3 d4 d5 => hJ T' _ tc' rc' k' d1 d2 (fun w => by omega) d4 d5) 7 0 (k + 3) _ (tc + 1) (rc + 1) rfl D' (by omega) (by omega) (by omega) (by omega)⟩
theorem pl_104 {ck want : Nat} {xd : Int32} {aS : Nat → Int32} (hd : xd = 0) (hN : N < 2 ^ 31) (hw1 : 1 ≤ want) (hw8 : want ≤ ml) (hck : ck < 64) (hev : ∀ n, n < 8 → bt xe n = true → bt ev n = true) (hpost : post 1)
    (hJ : ∀ (T L : Nat → Nat) (tc lc rc k : Nat) (ev xe : Int32) (ck : Nat) (S : Nat → Nat) (aS : Nat → Int32), k0 < k → k < N → ck < 64 → pv_ev S lc xe ev aS → J63 (nI k) ev (nI ml) (nI kw) (nI hw) (nI aw) (nI tc) (nI lc) (nI rc) 1 xe (nI ck) (fun j => nI (T j)) (fun j => nI (L j)) aS) :
    ∀ (d lc k : Nat) (T L : Nat → Nat) (tc rc : Nat), lc + d = want → pv_dr T L ml kw hw aw tc lc rc → (lc = want → rc = 1) → k0 < k → k + 17 * d < 2 ^ 20 →
      wL_law_104 post N xs J63 x1 ev (nI want) kc ks (d + 1) (nI k) (lN (ps_pt T tc 0)) (lN (ps_pt T tc 1)) (lN (ps_pt T tc 2)) (lN (ps_pk L 8 0 lc)) (nI tc) (nI rc) (nI lc) (nI ml) (nI kw) (nI hw) (nI aw) (nI tc) (nI lc) (nI rc) xd xe (nI ck) (fun j => nI (T j)) (fun j => nI (L j)) aS := by
  intro d
  induction d with
  | zero =>
    intro lc k T L tc rc hl D h1 hk hb
    cases (show lc = want by omega)
    obtain ⟨ok, lk, dp, a1, a2, a3, a4, hL, w⟩ := id D
    have hr := h1 rfl
    refine br_t (nI_le (Nat.le_refl _) (by omega)) (px_seal hd hr ok (by omega) a4 (by omega) hL (fun r a ha => nm_r (nI_1 k) (pl_cell hN (by omega) (fun r1 => pl_pickx 30 rfl (by decide) (by decide) (fun j hj => nm_r (e' := nI (want + 10 + j)) ?_ ?_)))))
    · have e : nI want + 10 = nI (want + 10) := nI_add want 10
      rw [e, nI_add]
    · have E : pv_ev (fun _ => 0) want xe ev a := ⟨ha, fun _ _ => by show 0 < 256; decide, hev, fun j hj n hn z => by have z' : 0 = 64 + n := z; omega⟩
      exact ⟨want + 10 + j + 3 + 1, pl_467 (T := T) (L := L) (rc := rc) (xd := 1) ⟨ok, lk, by omega, hr, a1, a2, a4, hL, w⟩ (by decide) hw1 hN (by omega) hpost (fun k' ev xe ck S aS b1 b2 b3 b4 => hJ T L tc want rc k' ev xe ck S aS b1 b2 b3 b4) (want + 10 + j + 3) 0 (k + 1) ev xe ck (fun _ => 0) a (by omega) (by omega) (by omega) hck E⟩
  | succ d ih =>
    intro lc k T L tc rc hl D h1 hk hb
    have m8 := D.2.2.2.2.1
    have n : ∀ (T L : Nat → Nat) (tc rc k' : Nat), pv_dr T L ml kw hw aw tc (lc + 1) rc → 1 ≤ rc → (lc + 1 = want → rc = 1) → k0 < k' → k' ≤ k + 17 → wL_law_104 post N xs J63 x1 ev (nI want) kc ks (d + 1) (nI k') (lN (ps_pt T tc 0)) (lN (ps_pt T tc 1)) (lN (ps_pt T tc 2)) (lN (ps_pk L 8 0 (lc + 1))) (nI tc) (nI rc) (nI (lc + 1)) (nI ml) (nI kw) (nI hw) (nI aw) (nI tc) (nI (lc + 1)) (nI rc) xd xe (nI ck) (fun j => nI (T j)) (fun j => nI (L j)) aS :=
      fun T L tc rc k' b1 b2 b3 b4 b5 => ih (lc + 1) k' T L tc rc (by omega) b1 b3 b4 (by omega)
    have g : ∀ (kd nu : Nat) (xk xn : Int32), xk = nI kd → xn = nI nu → 1 ≤ kd → kd ≤ 3 → nu < 64 → (kd < 3 → nu < 8) → wL_law_169 post N xs J63 (wL_law_104 post N xs J63 x1 ev (nI want) kc ks (d + 1)) x1 (nI k) ev (nI want) (lN (ps_pt T tc 0)) (lN (ps_pt T tc 1)) (lN (ps_pt T tc 2)) (lN (ps_pk L 8 0 lc)) (nI tc) (nI rc) (nI lc) xk xn kc ks (nI ml) (nI kw) (nI hw) (nI aw) (nI tc) (nI lc) (nI rc) xd xe (nI ck) (fun j => nI (T j)) (fun j => nI (L j)) aS := by
      intro kd nu xk xn e1 e2 b1 b2 b3 b4
      have f1 : (kd * 64 + nu) / 64 = kd := by omega
      have f2 : (kd * 64 + nu) % 64 = nu := by omega
      rw [e1, e2]
      have fc : ps_fc (kd * 64 + nu) := ⟨by omega, by omega, fun q => by rw [f2]; exact b4 (by omega)⟩
      refine pl_cellx (k + 2) (pl_2 k) hN (by omega) (fun r => br_c (fun _ => ?_) (fun _ => ?_))
      · have z := pl_189 (post := post) (xs := xs) (J63 := J63) (x1 := x1) (ev := ev) (kc := kc) (ks := ks) (ck := ck) (xe := xe) (z0 := 1) (aS := aS) D hd hN fc (show lc < want by omega) hw8 hk (by omega) n
        rw [f1, f2] at z
        exact z
      · have z := pl_189 (post := post) (xs := xs) (J63 := J63) (x1 := x1) (ev := ev) (kc := kc) (ks := ks) (ck := ck) (xe := xe) (z0 := 0) (aS := aS) D hd hN fc (show lc < want by omega) hw8 hk (by omega) n
        rw [f1, f2] at z
        exact z
    refine br_f (nI_ge (by omega) (by omega)) (pl_cell hN (by omega) (fun r1 => pl_pickx 3 rfl (by decide) (by decide) (fun j hj => nm_r (pl_a1 j) (pl_cellx (k + 1) (nI_1 k) hN (by omega) (fun r2 => pk_eq (1 + j) 3 (fun q => ?_) (fun q => br_c (fun _ => ?_) (fun _ => ?_)))))))
    · exact g (1 + j) _ _ _ rfl (pk_and r2 6 (by decide)) (by omega) (by omega) (Nat.mod_lt _ (by decide)) (fun z => by omega)
    · have m := Nat.mod_lt r2.toBitVec.toNat (show 0 < 2 ^ 1 by decide)
      exact g (1 + j) _ _ _ rfl (pk_and r2 1 (by decide)) (by omega) (by omega) (by omega) (fun z => by omega)
    · have m := Nat.mod_lt r2.toBitVec.toNat (show 0 < 2 ^ 3 by decide)
      exact g (1 + j) _ _ _ rfl (pk_and r2 3 (by decide)) (by omega) (by omega) (by omega) (fun z => by omega)
theorem pl_63 (hN : N ≤ 260) (hm2 : 2 ≤ ml) (hm : ml ≤ 8) (hwt : 1 ≤ kw ∧ kw ≤ 99 ∧ 1 ≤ hw ∧ hw ≤ 99 ∧ 1 ≤ aw ∧ aw ≤ 99) (hpost : post 1) :
    ∀ (n k : Nat) (ev xe : Int32) (T L : Nat → Nat) (tc lc rc ck : Nat) (xd : Int32) (aS : Nat → Int32), N - k < n → k ≤ 260 → ck < 64 → (∀ n, n < 8 → bt xe n = true → bt ev n = true) →
      wL_law_63 post N xs (nI ml) kc ks n (nI k) ev (nI ml) (nI kw) (nI hw) (nI aw) (nI tc) (nI lc) (nI rc) xd xe (nI ck) (fun j => nI (T j)) (fun j => nI (L j)) aS := by
  intro n
  induction n with
  | zero => intro k ev xe T L tc lc rc ck xd aS h; omega
  | succ n ih =>
    intro k ev xe T L tc lc rc ck xd aS hn hk hck hev
    refine nm_r (nI_1 k) (pl_cell (by omega) (by omega) (fun r1 => pl_pick (by omega) (by omega) (fun j hj => nm_r (pk_sub (by omega)) ⟨ml - j + 1, ?_⟩)))
    have D : pv_dr T L ml kw hw aw 0 0 0 := ⟨fun i h => absurd h (Nat.not_lt_zero i), rfl, rfl, Nat.zero_le _, hm, Nat.le_refl 0, Nat.zero_le _, fun j h => absurd h (Nat.not_lt_zero j), hwt⟩
    have g := pl_104 (post := post) (N := N) (xs := xs) (J63 := wL_law_63 post N xs (nI ml) kc ks n) (x1 := nI ml) (kc := kc) (ks := ks) (k0 := k) (xd := 0) (aS := aS) rfl (by omega) (show 1 ≤ ml - j by omega) (by omega) hck hev hpost (fun T L tc lc rc k' ev xe ck S aS b1 b2 b3 b4 => ih k' ev xe T L tc lc rc ck 1 aS (by omega) (by omega) b3 b4.2.2.1) (ml - j) 0 (k + 1) T L 0 0 (by omega) D (fun q => by omega) (by omega) (by omega)
    rw [ps_pt0, ps_pt0, ps_pt0] at g
    exact g
end
theorem i_vc (xs : Nat → Int32) (L : Nat) (hL : L ≤ 260) : wpL_law (fun r => r = 1) L xs := by
  refine pl_cellx 0 rfl (by omega) (by decide) (fun r0 => pl_pickx 7 rfl (by decide) (by decide) (fun a ha => nm_r (pl_a2 a) (pl_cellx 1 rfl (by omega) (by decide) (fun r1 => pl_pickx 9 rfl (by decide) (by decide) (fun b hb => pl_cellx 2 rfl (by omega) (by decide) (fun r2 => pl_pickx 9 rfl (by decide) (by decide) (fun c hc => pl_cellx 3 rfl (by omega) (by decide) (fun r3 => pl_pickx 9 rfl (by decide) (by decide) (fun d hd => ?_)))))))))
  refine ⟨3, 31, by omega, by omega, by omega, by omega, by omega, by omega, by omega, by omega, ?_⟩
  rw [pl_a1, pl_a1, pl_a1]
  refine px_clampok (a := 2) (b := 8) (by omega) (by omega) (by decide) (px_clampok (a := 1) (b := 99) (by omega) (by omega) (by decide) (px_clampok (a := 1) (b := 99) (by omega) (by omega) (by decide) (px_clampok (a := 1) (b := 99) (by omega) (by omega) (by decide) ⟨L + 1, ?_⟩)))
  exact pl_63 (post := fun r => r = 1) (xs := xs) (ml := 2 + a) (kw := 1 + b) (hw := 1 + c) (aw := 1 + d) hL (by omega) (by omega) ⟨by omega, by omega, by omega, by omega, by omega, by omega⟩ rfl (L + 1) 4 0 0 (fun _ => 0) (fun _ => 0) 0 0 0 0 0 (fun _ => 0) (by omega) (by decide) (by decide) (fun n hn z => by rw [b_0] at z; exact absurd z (by decide))
end
