theorem ps_or (a b : Nat) : nI a ||| nI b = nI (a ||| b) := by
  apply Int32.toBitVec_inj.1
  show BitVec.ofNat 32 a ||| BitVec.ofNat 32 b = BitVec.ofNat 32 (a ||| b)
  apply BitVec.eq_of_getLsbD_eq
  intro i hi
  simp [hi]
theorem ps_or1 (a b : Nat) (h : b < 2) : nI (2 * a) ||| nI b = nI (2 * a + b) := by
  have e := Nat.two_pow_add_eq_or_of_lt (i := 1) (b := b) (by omega) a
  rw [ps_or]
  exact congrArg nI e.symm
theorem ps_orT (m i : Nat) (h : m < 2 ^ i) : nI m ||| nI (2 ^ i) = nI (m + 2 ^ i) := by
  have e := Nat.two_pow_add_eq_or_of_lt h 1
  rw [Nat.mul_one] at e
  rw [ps_or, Nat.or_comm, ← e, Nat.add_comm]
theorem ps_shr {s i : Nat} (hs : s < 2 ^ 31) (hi : i < 32) : nI s >>> (nI i &&& 31) = nI (s / 2 ^ i) := pk_shrN hs _ i (s_l i hi)
theorem ps_dle (s i : Nat) : s / 2 ^ i ≤ s := Nat.div_le_self _ _
theorem ps_bit {s i : Nat} (hs : s < 2 ^ 31) (hi : i < 32) : (nI s >>> (nI i &&& 31)) &&& 1 = nI (s / 2 ^ i % 2) := by
  rw [ps_shr hs hi]
  exact pk_andN (Nat.lt_of_le_of_lt (ps_dle s i) (by omega)) 1 (by decide)
theorem ps_one : ∀ i, i < 31 → (1 : Int32) <<< (nI i &&& 31) = nI (2 ^ i) := by decide +kernel
theorem ps_clr : ∀ s, s < 256 → ∀ i, i < 8 → s / 2 ^ i % 2 = 1 → nI s &&& (((1 : Int32) <<< (nI i &&& 31)) ^^^ (-1)) = nI (s - 2 ^ i) := by decide +kernel
theorem ps_sble {s f : Nat} (hs : s < 2 ^ 31) (h : nI s &&& (nI f ^^^ (-1)) = 0) : s ≤ f := by
  have e : nI s &&& nI f = nI s := b_ext fun i hi => by
    have q : bt (nI s &&& (nI f ^^^ (-1))) i = false := by
      rw [h]
      exact b_0 i
    rw [b_and, b_xor, b_m1 i hi] at q
    rw [b_and]
    revert q
    cases bt (nI s) i <;> cases bt (nI f) i <;> simp
  have l1 : s &&& f ≤ s := Nat.and_le_left
  have l2 : s &&& f ≤ f := Nat.and_le_right
  rw [nx_and, nI_eq (by omega) hs] at e
  omega
theorem ps_p8 {i : Nat} (h : i ≤ 8) : 2 ^ i ≤ 256 := by
  have e := Nat.pow_le_pow_right (n := 2) (by decide) h
  exact e
theorem ps_p0 (i : Nat) : 0 < 2 ^ i := Nat.two_pow_pos i
theorem ps_b2 (q : Nat) : q % 2 < 2 := Nat.mod_lt q (by decide)
theorem ps_b01 (q : Nat) : q % 2 = 0 ∨ q % 2 = 1 := by omega
def ps_i (b : Bool) : Int32 := if b = true then 1 else 0
theorem ps_iT {b : Bool} (h : b = true) : ps_i b = 1 := if_pos h
theorem ps_iF {b : Bool} (h : b = false) : ps_i b = 0 := by rw [h]; rfl
theorem ps_nb (b : Bool) : narrow .boolean (.int (ps_i b)) = .int (ps_i b) := by cases b <;> rfl
theorem ps_vb (b : Bool) : vp_nar .boolean (ps_i b) = ps_i b := by cases b <;> rfl
theorem ps_i0 (b : Bool) : ps_i b = 0 ↔ b = false := by cases b <;> decide
theorem ps_nf {b : Bool} (h : ¬ b = true) : b = false := by cases b with | false => rfl | true => exact absurd rfl h
theorem ps_nt {b : Bool} (h : ¬ b = false) : b = true := by cases b with | true => rfl | false => exact absurd rfl h
def ps_cnt (R : Nat) : Nat → Nat
  | 0 => 0
  | m + 1 => ps_cnt R m + R / 2 ^ m % 2
theorem ps_cnt_le (R m : Nat) : ps_cnt R m ≤ m := by
  induction m with
  | zero => exact Nat.le_refl 0
  | succ m ih =>
    show ps_cnt R m + R / 2 ^ m % 2 ≤ m + 1
    have h := ps_b2 (R / 2 ^ m)
    generalize R / 2 ^ m % 2 = q at *
    omega
theorem ps_cnt0 (m : Nat) : ps_cnt 0 m = 0 := by
  induction m with
  | zero => rfl
  | succ m ih =>
    show ps_cnt 0 m + 0 / 2 ^ m % 2 = 0
    rw [ih, Nat.zero_div]
def ps_dp (T : Nat → Nat) : Nat → Nat
  | 0 => 0
  | i + 1 => if T i < 256 then ps_dp T i + 1 else ps_dp T i - (T i - 256) % 8
def ps_lk (T : Nat → Nat) : Nat → Nat
  | 0 => 0
  | i + 1 => if T i < 256 then ps_lk T i + 1 else ps_lk T i
def ps_rv (T : Nat → Nat) (s : Nat) : Nat → Nat
  | 0 => 0
  | i + 1 => if T i < 256 then 2 * ps_rv T s i + s / 2 ^ ps_lk T i % 2
    else 2 * (ps_rv T s i / 2 ^ ((T i - 256) % 8 + 1)) + (if (T i - 256) / 8 + 1 ≤ ps_cnt (ps_rv T s i) ((T i - 256) % 8 + 1) then 1 else 0)
def ps_ok (T : Nat → Nat) (tc : Nat) : Prop := ∀ i, i < tc → T i < 320 ∧ (256 ≤ T i → (T i - 256) % 8 + 1 ≤ ps_dp T i)
theorem ps_dpL {T : Nat → Nat} {i : Nat} (h : T i < 256) : ps_dp T (i + 1) = ps_dp T i + 1 := if_pos h
theorem ps_dpJ {T : Nat → Nat} {i : Nat} (h : ¬ T i < 256) : ps_dp T (i + 1) = ps_dp T i - (T i - 256) % 8 := if_neg h
theorem ps_lkL {T : Nat → Nat} {i : Nat} (h : T i < 256) : ps_lk T (i + 1) = ps_lk T i + 1 := if_pos h
theorem ps_lkJ {T : Nat → Nat} {i : Nat} (h : ¬ T i < 256) : ps_lk T (i + 1) = ps_lk T i := if_neg h
theorem ps_rvL {T : Nat → Nat} {s i : Nat} (h : T i < 256) : ps_rv T s (i + 1) = 2 * ps_rv T s i + s / 2 ^ ps_lk T i % 2 := if_pos h
theorem ps_rvJ {T : Nat → Nat} {s i : Nat} (h : ¬ T i < 256) : ps_rv T s (i + 1) = 2 * (ps_rv T s i / 2 ^ ((T i - 256) % 8 + 1)) + (if (T i - 256) / 8 + 1 ≤ ps_cnt (ps_rv T s i) ((T i - 256) % 8 + 1) then 1 else 0) := if_neg h
theorem ps_dp_c {T T' : Nat → Nat} : ∀ i, (∀ j, j < i → T' j = T j) → ps_dp T' i = ps_dp T i := by
  intro i
  induction i with
  | zero => exact fun _ => rfl
  | succ i ih =>
    intro h
    have e := ih (fun j hj => h j (by omega))
    have t := h i (by omega)
    show (if T' i < 256 then ps_dp T' i + 1 else ps_dp T' i - (T' i - 256) % 8) = (if T i < 256 then ps_dp T i + 1 else ps_dp T i - (T i - 256) % 8)
    rw [e, t]
theorem ps_lk_c {T T' : Nat → Nat} : ∀ i, (∀ j, j < i → T' j = T j) → ps_lk T' i = ps_lk T i := by
  intro i
  induction i with
  | zero => exact fun _ => rfl
  | succ i ih =>
    intro h
    have e := ih (fun j hj => h j (by omega))
    have t := h i (by omega)
    show (if T' i < 256 then ps_lk T' i + 1 else ps_lk T' i) = (if T i < 256 then ps_lk T i + 1 else ps_lk T i)
    rw [e, t]
theorem ps_dp_lk (T : Nat → Nat) (i : Nat) : ps_dp T i ≤ ps_lk T i := by
  induction i with
  | zero => exact Nat.le_refl 0
  | succ i ih =>
    by_cases h : T i < 256
    · rw [ps_dpL h, ps_lkL h]; omega
    · rw [ps_dpJ h, ps_lkJ h]; omega
theorem ps_lk_s (T : Nat → Nat) (i : Nat) : ps_lk T i ≤ ps_lk T (i + 1) := by
  by_cases h : T i < 256
  · rw [ps_lkL h]; omega
  · rw [ps_lkJ h]; exact Nat.le_refl _
theorem ps_lk_m (T : Nat → Nat) (i : Nat) : ∀ d, ps_lk T i ≤ ps_lk T (i + d) := by
  intro d
  induction d with
  | zero => exact Nat.le_refl _
  | succ d ih => exact Nat.le_trans ih (ps_lk_s T (i + d))
theorem ps_lk_le {T : Nat → Nat} {i j : Nat} (h : i ≤ j) : ps_lk T i ≤ ps_lk T j := by
  have e := ps_lk_m T i (j - i)
  rw [show i + (j - i) = j by omega] at e
  exact e
theorem ps_rv_lt {T : Nat → Nat} {tc s : Nat} (h : ps_ok T tc) : ∀ i, i ≤ tc → ps_rv T s i < 2 ^ ps_dp T i := by
  intro i
  induction i with
  | zero => exact fun _ => Nat.one_pos
  | succ i ih =>
    intro hi
    have r := ih (by omega)
    by_cases t : T i < 256
    · rw [ps_rvL t, ps_dpL t, Nat.pow_succ]
      have b := ps_b2 (s / 2 ^ ps_lk T i)
      generalize s / 2 ^ ps_lk T i % 2 = q at *
      generalize 2 ^ ps_dp T i = z at *
      omega
    · rw [ps_rvJ t, ps_dpJ t]
      have n := (h i (by omega)).2 (by omega)
      generalize (T i - 256) % 8 = m at *
      obtain ⟨d, e⟩ : ∃ d, ps_dp T i = (m + 1) + d := ⟨ps_dp T i - (m + 1), by omega⟩
      rw [e] at r ⊢
      rw [show m + 1 + d - m = d + 1 by omega, show 2 ^ (d + 1) = 2 ^ d * 2 from Nat.pow_succ 2 d]
      have q : ps_rv T s i / 2 ^ (m + 1) < 2 ^ d := by
        rw [Nat.div_lt_iff_lt_mul (ps_p0 _), Nat.mul_comm, ← Nat.pow_add]
        exact r
      generalize ps_rv T s i / 2 ^ (m + 1) = x at *
      generalize 2 ^ d = z at *
      split <;> omega
theorem ps_rv0 (T : Nat → Nat) (i : Nat) : ps_rv T 0 i = 0 := by
  induction i with
  | zero => rfl
  | succ i ih =>
    by_cases t : T i < 256
    · rw [ps_rvL t, ih, Nat.zero_div]
    · rw [ps_rvJ t, ih, ps_cnt0, Nat.zero_div, if_neg (by omega)]
def ps_tr (T : Nat → Nat) (tc s : Nat) : Bool := decide (ps_rv T s tc = 1)
theorem ps_tr0 (T : Nat → Nat) (tc : Nat) : ps_tr T tc 0 = false := by
  unfold ps_tr
  rw [ps_rv0]
  rfl
theorem ps_bS (a b x : Nat) (h : b < 2) : (2 * a + b) / 2 ^ (x + 1) = a / 2 ^ x := by
  rw [Nat.pow_succ, Nat.mul_comm (2 ^ x) 2, ← Nat.div_div_eq_div_mul]
  rw [show (2 * a + b) / 2 = a by omega]
theorem ps_bD (a n x : Nat) : a / 2 ^ n / 2 ^ x = a / 2 ^ (n + x) := by
  rw [Nat.div_div_eq_div_mul, ← Nat.pow_add]
theorem ps_hi {s m i : Nat} (h : s < 2 ^ m) (hi : m ≤ i) : s / 2 ^ i % 2 = 0 := by
  have e : 2 ^ m ≤ 2 ^ i := Nat.pow_le_pow_right (by decide) hi
  rw [Nat.div_eq_of_lt (by omega)]
