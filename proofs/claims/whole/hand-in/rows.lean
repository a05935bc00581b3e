section
theorem pk_us {f : Nat → Int32} {k : Nat} {x : Int32} : upd f k x k = x := if_pos rfl
theorem pk_un {f : Nat → Int32} {k j : Nat} {x : Int32} (h : j ≠ k) : upd f k x j = f j := if_neg h
theorem pk_sub {a b : Nat} (h : b ≤ a) : nI a - nI b = nI (a - b) := by
  obtain ⟨c, rfl⟩ : ∃ c, a = c + b := ⟨a - b, by omega⟩
  rw [← nI_add, Int32.add_sub_cancel, Nat.add_sub_cancel]
theorem pk_m1 (n : Nat) : nI (n + 1) + (-1) = nI n := by
  rw [← nI_1, Int32.add_assoc, show (1 : Int32) + (-1) = 0 from rfl, Int32.add_zero]
theorem pk_mul (a b : Nat) : nI a * nI b = nI (a * b) := (Int32.ofNat_mul a b).symm
theorem pk_div {a d : Nat} (ha : a < 2 ^ 31) (h0 : 0 < d) (hd : d < 2 ^ 31) : nI a / nI d = nI (a / d) := by
  apply Int32.toInt_inj.mp
  rw [lg_idiv_nonneg (by rw [nI_toInt ha]; omega) (by rw [nI_toInt hd]; omega), nI_toInt ha, nI_toInt hd, nI_toInt (Nat.lt_of_le_of_lt (Nat.div_le_self a d) ha)]
  first | rfl | exact (Int.natCast_ediv _ _).symm
theorem pk_rem {a d : Nat} (ha : a < 2 ^ 31) (h0 : 0 < d) (hd : d < 2 ^ 31) : nI a - nI a / nI d * nI d = nI (a % d) := by
  rw [pk_div ha h0 hd, pk_mul, pk_sub (Nat.div_mul_le_self a d)]
  exact congrArg nI (by have := Nat.div_add_mod' a d; omega)
theorem pk_sub_toInt {a b : Nat} (ha : a < 2 ^ 30) (hb : b < 2 ^ 30) : (nI a - nI b).toInt = (a : Int) - b := by
  rw [Int32.toInt_sub, nI_toInt (by omega), nI_toInt (by omega)]
  exact Int.bmod_eq_of_le (by omega) (by omega)
theorem pk_sneg {a b : Nat} (hb : b < 2 ^ 30) (h : a < b) : nI a - nI b < 0 := by
  rw [Int32.lt_iff_toInt_lt, pk_sub_toInt (by omega) hb, show (0 : Int32).toInt = 0 from by decide]
  omega
theorem pk_ix (x : Int32) {n : Nat} (hn : n < 2 ^ 31) : x < 0 ∨ nI n ≤ x ∨ ∃ j : Nat, j < n ∧ x = nI j := by
  by_cases h : x < 0
  · exact Or.inl h
  · obtain ⟨j, hj, rfl⟩ := nI_of h
    by_cases h2 : j < n
    · exact Or.inr (Or.inr ⟨j, h2, rfl⟩)
    · exact Or.inr (Or.inl (nI_le (by omega) hj))
theorem pk_le {x y : Int32} {A B : Prop} (a b : Nat) (f : a ≤ b → A) (g : b < a → B) (hx : x = nI a := by rfl) (hy : y = nI b := by rfl) (ha : a < 2 ^ 31 := by omega) (hb : b < 2 ^ 31 := by omega) : (x ≤ y → A) ∧ (¬ x ≤ y → B) := by
  subst hx hy
  rw [nI_leI ha hb]
  exact ⟨f, fun z => g (by omega)⟩
theorem pk_lt {x y : Int32} {A B : Prop} (a b : Nat) (f : a < b → A) (g : b ≤ a → B) (hx : x = nI a := by rfl) (hy : y = nI b := by rfl) (ha : a < 2 ^ 31 := by omega) (hb : b < 2 ^ 31 := by omega) : (x < y → A) ∧ (¬ x < y → B) := by
  subst hx hy
  rw [nI_ltI ha hb]
  exact ⟨f, fun z => g (by omega)⟩
theorem pk_eq {x y : Int32} {A B : Prop} (a b : Nat) (f : a = b → A) (g : a ≠ b → B) (hx : x = nI a := by rfl) (hy : y = nI b := by rfl) (ha : a < 2 ^ 31 := by omega) (hb : b < 2 ^ 31 := by omega) : (x = y → A) ∧ (¬ x = y → B) := by
  subst hx hy
  rw [nI_eq ha hb]
  exact ⟨f, g⟩
theorem pk_in {x : Int32} (n N : Nat) (h : n < N) (hx : x = nI n := by rfl) (hN : N < 2 ^ 31 := by omega) : vp_in x N := by
  subst hx
  exact vp_in_nI h hN
theorem pk_cl {x : Int32} (n : Nat) (hx : x = nI n := by rfl) (h : n < 2 ^ 31 := by omega) : x.toNatClampNeg = n := by
  subst hx
  exact nI_clamp h
theorem pk_tn {n : Nat} (h : n < 2 ^ 32) : (nI n).toBitVec.toNat = n := Nat.mod_eq_of_lt h
theorem pk_and (x : Int32) {m : Int32} (k : Nat) (hm : m.toBitVec.toNat = 2 ^ k - 1) : x &&& m = nI (x.toBitVec.toNat % 2 ^ k) := by
  apply Int32.toBitVec_inj.mp
  apply BitVec.eq_of_toNat_eq
  rw [Int32.toBitVec_and, BitVec.toNat_and, hm, Nat.and_two_pow_sub_one_eq_mod]
  show _ = (BitVec.ofNat 32 _).toNat
  rw [BitVec.toNat_ofNat]
  exact (Nat.mod_eq_of_lt (Nat.lt_of_le_of_lt (Nat.mod_le _ _) x.toBitVec.isLt)).symm
theorem pk_andN {n : Nat} (h : n < 2 ^ 32) {m : Int32} (k : Nat) (hm : m.toBitVec.toNat = 2 ^ k - 1) : nI n &&& m = nI (n % 2 ^ k) := by
  rw [pk_and _ k hm, pk_tn h]
theorem pk_shl (a s : Int32) (k : Nat) (hs : (s.toBitVec.smod 32).toNat = k) : (a <<< s).toBitVec.toNat = a.toBitVec.toNat * 2 ^ k % 2 ^ 32 := by
  show (a.toBitVec <<< (s.toBitVec.smod 32).toNat).toNat = _
  rw [hs, BitVec.toNat_shiftLeft, Nat.shiftLeft_eq]
theorem pk_shlN {n : Nat} (s : Int32) (k : Nat) (hs : (s.toBitVec.smod 32).toNat = k) (h : n * 2 ^ k < 2 ^ 32) : nI n <<< s = nI (n * 2 ^ k) := by
  apply Int32.toBitVec_inj.mp
  apply BitVec.eq_of_toNat_eq
  have hn : n < 2 ^ 32 := Nat.lt_of_le_of_lt (Nat.le_mul_of_pos_right n (Nat.two_pow_pos k)) h
  rw [pk_shl _ _ k hs, pk_tn hn, pk_tn h, Nat.mod_eq_of_lt h]
theorem pk_shr (a s : Int32) (k : Nat) (hs : (s.toBitVec.smod 32).toNat = k) : (a >>> s).toInt = a.toInt >>> k := by
  show (a.toBitVec.sshiftRight (s.toBitVec.smod 32).toNat).toInt = _
  rw [hs, BitVec.toInt_sshiftRight]
  rfl
theorem pk_shrN {n : Nat} (h : n < 2 ^ 31) (s : Int32) (k : Nat) (hs : (s.toBitVec.smod 32).toNat = k) : nI n >>> s = nI (n / 2 ^ k) := by
  apply Int32.toInt_inj.mp
  have h2 : n / 2 ^ k ≤ n := Nat.div_le_self _ _
  rw [pk_shr _ _ k hs, nI_toInt h, nI_toInt (by omega), Int.shiftRight_eq_div_pow]
  rfl
theorem pk_loop {σ : Type} (W : Nat → Nat → σ → Prop) (I : Nat → σ → Prop) (e i0 : Nat) (s : σ) (hi : i0 ≤ e) (h0 : I i0 s) (hx : ∀ n s, I e s → W (n + 1) e s)
    (hs : ∀ n i s, i < e → I i s → (∀ s', I (i + 1) s' → W n (i + 1) s') → W (n + 1) i s) : ∃ n, W n i0 s :=
  ⟨e + 1, loop_i W I e hx hs (e + 1) i0 s hi (by omega) h0⟩
theorem ek_if {c d A B : Prop} (e : c ↔ d) (f : d → A) (g : ¬ d → B) : (c → A) ∧ (¬ c → B) :=
  ⟨fun z => f (e.mp z), fun z => g (fun y => z (e.mpr y))⟩
theorem ek_v {α : Sort _} {P : α → Prop} {a b : α} (e : a = b) (h : P b) : P a := e ▸ h
def bt (x : Int32) (i : Nat) : Bool := x.toBitVec.getLsbD i
theorem b_ext {x y : Int32} (h : ∀ i, i < 32 → bt x i = bt y i) : x = y := Int32.toBitVec_inj.mp (BitVec.eq_of_getLsbD_eq (fun i hi => h i hi))
theorem b_or (x y : Int32) (i : Nat) : bt (x ||| y) i = (bt x i || bt y i) := by unfold bt; rw [Int32.toBitVec_or, BitVec.getLsbD_or]
theorem b_and (x y : Int32) (i : Nat) : bt (x &&& y) i = (bt x i && bt y i) := by unfold bt; rw [Int32.toBitVec_and, BitVec.getLsbD_and]
theorem b_xor (x y : Int32) (i : Nat) : bt (x ^^^ y) i = (bt x i ^^ bt y i) := by unfold bt; rw [Int32.toBitVec_xor, BitVec.getLsbD_xor]
theorem b_big {x : Int32} {i : Nat} (h : 32 ≤ i) : bt x i = false := BitVec.getLsbD_of_ge _ _ h
theorem b_m1 : ∀ i, i < 32 → bt (-1) i = true := by decide +kernel
theorem b_0 (i : Nat) : bt 0 i = false := BitVec.getLsbD_zero
theorem s_l : ∀ n, n < 32 → ((nI n &&& 31).toBitVec.smod 32).toNat = n := by decide +kernel
theorem b_shl (n : Nat) (hn : n < 32) (x : Int32) {i : Nat} (hi : i < 32) : bt (x <<< (nI n &&& 31)) i = (decide (n ≤ i) && bt x (i - n)) := by
  unfold bt
  rw [Int32.toBitVec_shiftLeft]
  show (x.toBitVec <<< ((nI n &&& 31).toBitVec.smod 32).toNat).getLsbD i = _
  rw [s_l n hn, BitVec.getLsbD_shiftLeft]
  rcases Nat.lt_or_ge i n with h | h
  · simp [h, Nat.not_le.mpr h]
  · simp [hi, h, Nat.not_lt.mpr h]
theorem b_sshr (n : Nat) (hn : n < 32) (x : Int32) {i : Nat} (hi : i < 32) : bt (x >>> (nI n &&& 31)) i = if n + i < 32 then bt x (n + i) else bt x 31 := by
  unfold bt
  rw [Int32.toBitVec_shiftRight]
  show (x.toBitVec.sshiftRight ((nI n &&& 31).toBitVec.smod 32).toNat).getLsbD i = _
  rw [s_l n hn, BitVec.getLsbD_sshiftRight, BitVec.msb_eq_getLsbD_last]
  simp [hi]
theorem nx_and (a b : Nat) : nI a &&& nI b = nI (a &&& b) := by
  apply Int32.toBitVec_inj.1
  show BitVec.ofNat 32 a &&& BitVec.ofNat 32 b = BitVec.ofNat 32 (a &&& b)
  apply BitVec.eq_of_getLsbD_eq
  intro i hi
  simp [hi]
theorem nx_xor (a b : Nat) : nI a ^^^ nI b = nI (a ^^^ b) := by
  apply Int32.toBitVec_inj.1
  show BitVec.ofNat 32 a ^^^ BitVec.ofNat 32 b = BitVec.ofNat 32 (a ^^^ b)
  apply BitVec.eq_of_getLsbD_eq
  intro i hi
  simp [hi]
end
section
theorem ps_or (a b : Nat) : nI a ||| nI b = nI (a ||| b) := by
  apply Int32.toBitVec_inj.1
  show BitVec.ofNat 32 a ||| BitVec.ofNat 32 b = BitVec.ofNat 32 (a ||| b)
  apply BitVec.eq_of_getLsbD_eq
  intro i hi
  simp [hi]
theorem ps_or1 (a b : Nat) (h : b < 2) : nI (2 * a) ||| nI b = nI (2 * a + b) := by
  have e := Nat.two_pow_add_eq_or_of_lt (i := 1) (b := b) (by omega) a
  rw [ps_or]
  exact congrArg nI e.symm
theorem ps_orT (m i : Nat) (h : m < 2 ^ i) : nI m ||| nI (2 ^ i) = nI (m + 2 ^ i) := by
  have e := Nat.two_pow_add_eq_or_of_lt h 1
  rw [Nat.mul_one] at e
  rw [ps_or, Nat.or_comm, ← e, Nat.add_comm]
theorem ps_shr {s i : Nat} (hs : s < 2 ^ 31) (hi : i < 32) : nI s >>> (nI i &&& 31) = nI (s / 2 ^ i) := pk_shrN hs _ i (s_l i hi)
theorem ps_dle (s i : Nat) : s / 2 ^ i ≤ s := Nat.div_le_self _ _
theorem ps_bit {s i : Nat} (hs : s < 2 ^ 31) (hi : i < 32) : (nI s >>> (nI i &&& 31)) &&& 1 = nI (s / 2 ^ i % 2) := by
  rw [ps_shr hs hi]
  exact pk_andN (Nat.lt_of_le_of_lt (ps_dle s i) (by omega)) 1 (by decide)
theorem ps_one : ∀ i, i < 31 → (1 : Int32) <<< (nI i &&& 31) = nI (2 ^ i) := by decide +kernel
theorem ps_clr : ∀ s, s < 256 → ∀ i, i < 8 → s / 2 ^ i % 2 = 1 → nI s &&& (((1 : Int32) <<< (nI i &&& 31)) ^^^ (-1)) = nI (s - 2 ^ i) := by decide +kernel
theorem ps_sble {s f : Nat} (hs : s < 2 ^ 31) (h : nI s &&& (nI f ^^^ (-1)) = 0) : s ≤ f := by
  have e : nI s &&& nI f = nI s := b_ext fun i hi => by
    have q : bt (nI s &&& (nI f ^^^ (-1))) i = false := by
      rw [h]
      exact b_0 i
    rw [b_and, b_xor, b_m1 i hi] at q
    rw [b_and]
    revert q
    cases bt (nI s) i <;> cases bt (nI f) i <;> simp
  have l1 : s &&& f ≤ s := Nat.and_le_left
  have l2 : s &&& f ≤ f := Nat.and_le_right
  rw [nx_and, nI_eq (by omega) hs] at e
  omega
theorem ps_p8 {i : Nat} (h : i ≤ 8) : 2 ^ i ≤ 256 := by
  have e := Nat.pow_le_pow_right (n := 2) (by decide) h
  exact e
theorem ps_p0 (i : Nat) : 0 < 2 ^ i := Nat.two_pow_pos i
theorem ps_b2 (q : Nat) : q % 2 < 2 := Nat.mod_lt q (by decide)
theorem ps_b01 (q : Nat) : q % 2 = 0 ∨ q % 2 = 1 := by omega
def ps_i (b : Bool) : Int32 := if b = true then 1 else 0
theorem ps_iT {b : Bool} (h : b = true) : ps_i b = 1 := if_pos h
theorem ps_iF {b : Bool} (h : b = false) : ps_i b = 0 := by rw [h]; rfl
theorem ps_nb (b : Bool) : narrow .boolean (.int (ps_i b)) = .int (ps_i b) := by cases b <;> rfl
theorem ps_vb (b : Bool) : vp_nar .boolean (ps_i b) = ps_i b := by cases b <;> rfl
theorem ps_i0 (b : Bool) : ps_i b = 0 ↔ b = false := by cases b <;> decide
theorem ps_nf {b : Bool} (h : ¬ b = true) : b = false := by cases b with | false => rfl | true => exact absurd rfl h
theorem ps_nt {b : Bool} (h : ¬ b = false) : b = true := by cases b with | true => rfl | false => exact absurd rfl h
def ps_cnt (R : Nat) : Nat → Nat
  | 0 => 0
  | m + 1 => ps_cnt R m + R / 2 ^ m % 2
theorem ps_cnt_le (R m : Nat) : ps_cnt R m ≤ m := by
  induction m with
  | zero => exact Nat.le_refl 0
  | succ m ih =>
    show ps_cnt R m + R / 2 ^ m % 2 ≤ m + 1
    have h := ps_b2 (R / 2 ^ m)
    generalize R / 2 ^ m % 2 = q at *
    omega
theorem ps_cnt0 (m : Nat) : ps_cnt 0 m = 0 := by
  induction m with
  | zero => rfl
  | succ m ih =>
    show ps_cnt 0 m + 0 / 2 ^ m % 2 = 0
    rw [ih, Nat.zero_div]
def ps_dp (T : Nat → Nat) : Nat → Nat
  | 0 => 0
  | i + 1 => if T i < 256 then ps_dp T i + 1 else ps_dp T i - (T i - 256) % 8
def ps_lk (T : Nat → Nat) : Nat → Nat
  | 0 => 0
  | i + 1 => if T i < 256 then ps_lk T i + 1 else ps_lk T i
def ps_rv (T : Nat → Nat) (s : Nat) : Nat → Nat
  | 0 => 0
  | i + 1 => if T i < 256 then 2 * ps_rv T s i + s / 2 ^ ps_lk T i % 2
    else 2 * (ps_rv T s i / 2 ^ ((T i - 256) % 8 + 1)) + (if (T i - 256) / 8 + 1 ≤ ps_cnt (ps_rv T s i) ((T i - 256) % 8 + 1) then 1 else 0)
def ps_ok (T : Nat → Nat) (tc : Nat) : Prop := ∀ i, i < tc → T i < 320 ∧ (256 ≤ T i → (T i - 256) % 8 + 1 ≤ ps_dp T i)
theorem ps_dpL {T : Nat → Nat} {i : Nat} (h : T i < 256) : ps_dp T (i + 1) = ps_dp T i + 1 := if_pos h
theorem ps_dpJ {T : Nat → Nat} {i : Nat} (h : ¬ T i < 256) : ps_dp T (i + 1) = ps_dp T i - (T i - 256) % 8 := if_neg h
theorem ps_lkL {T : Nat → Nat} {i : Nat} (h : T i < 256) : ps_lk T (i + 1) = ps_lk T i + 1 := if_pos h
theorem ps_lkJ {T : Nat → Nat} {i : Nat} (h : ¬ T i < 256) : ps_lk T (i + 1) = ps_lk T i := if_neg h
theorem ps_rvL {T : Nat → Nat} {s i : Nat} (h : T i < 256) : ps_rv T s (i + 1) = 2 * ps_rv T s i + s / 2 ^ ps_lk T i % 2 := if_pos h
theorem ps_rvJ {T : Nat → Nat} {s i : Nat} (h : ¬ T i < 256) : ps_rv T s (i + 1) = 2 * (ps_rv T s i / 2 ^ ((T i - 256) % 8 + 1)) + (if (T i - 256) / 8 + 1 ≤ ps_cnt (ps_rv T s i) ((T i - 256) % 8 + 1) then 1 else 0) := if_neg h
theorem ps_dp_c {T T' : Nat → Nat} : ∀ i, (∀ j, j < i → T' j = T j) → ps_dp T' i = ps_dp T i := by
  intro i
  induction i with
  | zero => exact fun _ => rfl
  | succ i ih =>
    intro h
    have e := ih (fun j hj => h j (by omega))
    have t := h i (by omega)
    show (if T' i < 256 then ps_dp T' i + 1 else ps_dp T' i - (T' i - 256) % 8) = (if T i < 256 then ps_dp T i + 1 else ps_dp T i - (T i - 256) % 8)
    rw [e, t]
theorem ps_lk_c {T T' : Nat → Nat} : ∀ i, (∀ j, j < i → T' j = T j) → ps_lk T' i = ps_lk T i := by
  intro i
  induction i with
  | zero => exact fun _ => rfl
  | succ i ih =>
    intro h
    have e := ih (fun j hj => h j (by omega))
    have t := h i (by omega)
    show (if T' i < 256 then ps_lk T' i + 1 else ps_lk T' i) = (if T i < 256 then ps_lk T i + 1 else ps_lk T i)
    rw [e, t]
theorem ps_dp_lk (T : Nat → Nat) (i : Nat) : ps_dp T i ≤ ps_lk T i := by
  induction i with
  | zero => exact Nat.le_refl 0
  | succ i ih =>
    by_cases h : T i < 256
    · rw [ps_dpL h, ps_lkL h]; omega
    · rw [ps_dpJ h, ps_lkJ h]; omega
theorem ps_lk_s (T : Nat → Nat) (i : Nat) : ps_lk T i ≤ ps_lk T (i + 1) := by
  by_cases h : T i < 256
  · rw [ps_lkL h]; omega
  · rw [ps_lkJ h]; exact Nat.le_refl _
theorem ps_lk_m (T : Nat → Nat) (i : Nat) : ∀ d, ps_lk T i ≤ ps_lk T (i + d) := by
  intro d
  induction d with
  | zero => exact Nat.le_refl _
  | succ d ih => exact Nat.le_trans ih (ps_lk_s T (i + d))
theorem ps_lk_le {T : Nat → Nat} {i j : Nat} (h : i ≤ j) : ps_lk T i ≤ ps_lk T j := by
  have e := ps_lk_m T i (j - i)
  rw [show i + (j - i) = j by omega] at e
  exact e
theorem ps_rv_lt {T : Nat → Nat} {tc s : Nat} (h : ps_ok T tc) : ∀ i, i ≤ tc → ps_rv T s i < 2 ^ ps_dp T i := by
  intro i
  induction i with
  | zero => exact fun _ => Nat.one_pos
  | succ i ih =>
    intro hi
    have r := ih (by omega)
    by_cases t : T i < 256
    · rw [ps_rvL t, ps_dpL t, Nat.pow_succ]
      have b := ps_b2 (s / 2 ^ ps_lk T i)
      generalize s / 2 ^ ps_lk T i % 2 = q at *
      generalize 2 ^ ps_dp T i = z at *
      omega
    · rw [ps_rvJ t, ps_dpJ t]
      have n := (h i (by omega)).2 (by omega)
      generalize (T i - 256) % 8 = m at *
      obtain ⟨d, e⟩ : ∃ d, ps_dp T i = (m + 1) + d := ⟨ps_dp T i - (m + 1), by omega⟩
      rw [e] at r ⊢
      rw [show m + 1 + d - m = d + 1 by omega, show 2 ^ (d + 1) = 2 ^ d * 2 from Nat.pow_succ 2 d]
      have q : ps_rv T s i / 2 ^ (m + 1) < 2 ^ d := by
        rw [Nat.div_lt_iff_lt_mul (ps_p0 _), Nat.mul_comm, ← Nat.pow_add]
        exact r
      generalize ps_rv T s i / 2 ^ (m + 1) = x at *
      generalize 2 ^ d = z at *
      split <;> omega
theorem ps_rv0 (T : Nat → Nat) (i : Nat) : ps_rv T 0 i = 0 := by
  induction i with
  | zero => rfl
  | succ i ih =>
    by_cases t : T i < 256
    · rw [ps_rvL t, ih, Nat.zero_div]
    · rw [ps_rvJ t, ih, ps_cnt0, Nat.zero_div, if_neg (by omega)]
def ps_tr (T : Nat → Nat) (tc s : Nat) : Bool := decide (ps_rv T s tc = 1)
theorem ps_tr0 (T : Nat → Nat) (tc : Nat) : ps_tr T tc 0 = false := by
  unfold ps_tr
  rw [ps_rv0]
  rfl
theorem ps_bS (a b x : Nat) (h : b < 2) : (2 * a + b) / 2 ^ (x + 1) = a / 2 ^ x := by
  rw [Nat.pow_succ, Nat.mul_comm (2 ^ x) 2, ← Nat.div_div_eq_div_mul]
  rw [show (2 * a + b) / 2 = a by omega]
theorem ps_bD (a n x : Nat) : a / 2 ^ n / 2 ^ x = a / 2 ^ (n + x) := by
  rw [Nat.div_div_eq_div_mul, ← Nat.pow_add]
theorem ps_hi {s m i : Nat} (h : s < 2 ^ m) (hi : m ≤ i) : s / 2 ^ i % 2 = 0 := by
  have e : 2 ^ m ≤ 2 ^ i := Nat.pow_le_pow_right (by decide) hi
  rw [Nat.div_eq_of_lt (by omega)]
end
section
def ps_mnA (P : Nat → Bool) (s : Nat) : Nat → Bool
  | 0 => true
  | m + 1 => ps_mnA P s m && !(decide (s / 2 ^ m % 2 = 1) && P (s - 2 ^ m))
theorem ps_mnA_f {P : Nat → Bool} {s m : Nat} (h : ps_mnA P s m = false) : ∀ d, ps_mnA P s (m + d) = false := by
  intro d
  induction d with
  | zero => exact h
  | succ d ih =>
    show (ps_mnA P s (m + d) && _) = false
    rw [ih]
    rfl
theorem ps_mnA_le {P : Nat → Bool} {s m j : Nat} (h : ps_mnA P s m = false) (hj : m ≤ j) : ps_mnA P s j = false := by
  have e := ps_mnA_f h (j - m)
  rw [show m + (j - m) = j by omega] at e
  exact e
theorem ps_mnA_hi {P : Nat → Bool} {s m : Nat} (h : s < 2 ^ m) : ∀ d, ps_mnA P s (m + d) = ps_mnA P s m := by
  intro d
  induction d with
  | zero => rfl
  | succ d ih =>
    show (ps_mnA P s (m + d) && !(decide (s / 2 ^ (m + d) % 2 = 1) && P (s - 2 ^ (m + d)))) = _
    rw [ih, ps_hi h (show m ≤ m + d by omega)]
    simp
theorem ps_mnA_8 {P : Nat → Bool} {s m : Nat} (h : s < 2 ^ m) (hm : m ≤ 8) : ps_mnA P s 8 = ps_mnA P s m := by
  have e := ps_mnA_hi (P := P) h (8 - m)
  rw [show m + (8 - m) = 8 by omega] at e
  exact e
def ps_mn (P : Nat → Bool) (m s : Nat) : Bool := P s && ps_mnA P s m
def ps_wt (w L : Nat → Nat) (s : Nat) : Nat → Nat
  | 0 => 0
  | m + 1 => ps_wt w L s m + (if s / 2 ^ m % 2 = 1 then w (L m / 64) else 0)
theorem ps_wt_hi {w L : Nat → Nat} {s m : Nat} (h : s < 2 ^ m) : ∀ d, ps_wt w L s (m + d) = ps_wt w L s m := by
  intro d
  induction d with
  | zero => rfl
  | succ d ih =>
    show ps_wt w L s (m + d) + (if s / 2 ^ (m + d) % 2 = 1 then w (L (m + d) / 64) else 0) = _
    rw [ih, ps_hi h (show m ≤ m + d by omega), if_neg (by decide)]
    rfl
theorem ps_wt_8 {w L : Nat → Nat} {s m : Nat} (h : s < 2 ^ m) (hm : m ≤ 8) : ps_wt w L s 8 = ps_wt w L s m := by
  have e := ps_wt_hi (w := w) (L := L) h (8 - m)
  rw [show m + (8 - m) = 8 by omega] at e
  exact e
theorem ps_wt_le {w L : Nat → Nat} {s : Nat} (hw : ∀ k, w k ≤ 99) : ∀ m, ps_wt w L s m ≤ 99 * m := by
  intro m
  induction m with
  | zero => exact Nat.le_refl 0
  | succ m ih =>
    show ps_wt w L s m + (if s / 2 ^ m % 2 = 1 then w (L m / 64) else 0) ≤ 99 * (m + 1)
    have h := hw (L m / 64)
    split <;> omega
def ps_mk (p : Nat → Bool) : Nat → Nat
  | 0 => 0
  | m + 1 => ps_mk p m + (if p m = true then 2 ^ m else 0)
theorem ps_mkT {p : Nat → Bool} {m : Nat} (h : p m = true) : ps_mk p (m + 1) = ps_mk p m + 2 ^ m := by
  show ps_mk p m + (if p m = true then 2 ^ m else 0) = _
  rw [if_pos h]
theorem ps_mkF {p : Nat → Bool} {m : Nat} (h : p m = false) : ps_mk p (m + 1) = ps_mk p m := by
  show ps_mk p m + (if p m = true then 2 ^ m else 0) = _
  rw [if_neg (by rw [h]; decide)]
  rfl
theorem ps_mk_lt (p : Nat → Bool) (m : Nat) : ps_mk p m < 2 ^ m := by
  induction m with
  | zero => exact Nat.one_pos
  | succ m ih =>
    show ps_mk p m + (if p m = true then 2 ^ m else 0) < 2 ^ (m + 1)
    rw [Nat.pow_succ]
    generalize 2 ^ m = z at *
    split <;> omega
theorem ps_mk_c {p q : Nat → Bool} : ∀ m, (∀ i, i < m → p i = q i) → ps_mk p m = ps_mk q m := by
  intro m
  induction m with
  | zero => exact fun _ => rfl
  | succ m ih =>
    intro h
    show ps_mk p m + (if p m = true then 2 ^ m else 0) = ps_mk q m + (if q m = true then 2 ^ m else 0)
    rw [ih (fun i hi => h i (by omega)), h m (by omega)]
theorem ps_mk_x {p : Nat → Bool} {m : Nat} : ∀ d, (∀ i, m ≤ i → i < m + d → p i = false) → ps_mk p (m + d) = ps_mk p m := by
  intro d
  induction d with
  | zero => exact fun _ => rfl
  | succ d ih =>
    intro h
    rw [← Nat.add_assoc, ps_mkF (h (m + d) (by omega) (by omega))]
    exact ih (fun i a b => h i a (by omega))
theorem ps_mk_8 {p : Nat → Bool} {m : Nat} (hm : m ≤ 8) (h : ∀ i, m ≤ i → i < 8 → p i = false) : ps_mk p 8 = ps_mk p m := by
  have e := ps_mk_x (p := p) (m := m) (8 - m) (fun i a b => h i a (by omega))
  rw [show m + (8 - m) = 8 by omega] at e
  exact e
theorem ps_mk_b {p : Nat → Bool} {i : Nat} : ∀ m, i < m → ps_mk p m / 2 ^ i % 2 = (if p i = true then 1 else 0) := by
  intro m
  induction m with
  | zero => intro h; omega
  | succ m ih =>
    intro h
    by_cases e : i = m
    · subst e
      show (ps_mk p i + (if p i = true then 2 ^ i else 0)) / 2 ^ i % 2 = _
      have l := ps_mk_lt p i
      split
      · rw [Nat.add_div_right _ (ps_p0 i), Nat.div_eq_of_lt l]
      · rw [Nat.add_zero, Nat.div_eq_of_lt l]
    · have r := ih (by omega)
      obtain ⟨d, rfl⟩ : ∃ d, m = i + (1 + d) := ⟨m - i - 1, by omega⟩
      show (ps_mk p (i + (1 + d)) + (if p (i + (1 + d)) = true then 2 ^ (i + (1 + d)) else 0)) / 2 ^ i % 2 = _
      rw [← r]
      split
      · rw [Nat.pow_add 2 i, Nat.add_mul_div_left _ _ (ps_p0 i), Nat.pow_add 2 1]
        generalize ps_mk p (i + (1 + d)) / 2 ^ i = x
        generalize 2 ^ d = z
        omega
      · rfl
def ps_bs (g : Nat → Bool) (w : Nat → Nat) : Nat → Nat
  | 0 => 0
  | m + 1 => if g m = true ∧ (ps_bs g w m = 0 ∨ w m < w (ps_bs g w m)) then m else ps_bs g w m
theorem ps_bsT {g : Nat → Bool} {w : Nat → Nat} {m : Nat} (h : g m = true) (h2 : ps_bs g w m = 0 ∨ w m < w (ps_bs g w m)) : ps_bs g w (m + 1) = m := if_pos ⟨h, h2⟩
theorem ps_bsF {g : Nat → Bool} {w : Nat → Nat} {m : Nat} (h : g m = false) : ps_bs g w (m + 1) = ps_bs g w m := if_neg (by rw [h]; exact fun z => absurd z.1 (by decide))
theorem ps_bsN {g : Nat → Bool} {w : Nat → Nat} {m : Nat} (h : ¬ ps_bs g w m = 0) (h2 : ¬ w m < w (ps_bs g w m)) : ps_bs g w (m + 1) = ps_bs g w m := if_neg (fun z => z.2.elim h h2)
theorem ps_bs1 (g : Nat → Bool) (w : Nat → Nat) : ps_bs g w 1 = 0 := by
  show (if g 0 = true ∧ (ps_bs g w 0 = 0 ∨ w 0 < w (ps_bs g w 0)) then 0 else ps_bs g w 0) = 0
  split <;> rfl
theorem ps_bs_in (g : Nat → Bool) (w : Nat → Nat) (m : Nat) : ps_bs g w m = 0 ∨ (ps_bs g w m < m ∧ g (ps_bs g w m) = true) := by
  induction m with
  | zero => exact Or.inl rfl
  | succ m ih =>
    by_cases c : g m = true ∧ (ps_bs g w m = 0 ∨ w m < w (ps_bs g w m))
    · have e : ps_bs g w (m + 1) = m := if_pos c
      rw [e]
      exact Or.inr ⟨by omega, c.1⟩
    · have e : ps_bs g w (m + 1) = ps_bs g w m := if_neg c
      rw [e]
      rcases ih with a | ⟨a, b⟩
      · exact Or.inl a
      · exact Or.inr ⟨by omega, b⟩
theorem ps_bs_x {g : Nat → Bool} {w : Nat → Nat} {m : Nat} : ∀ d, (∀ i, m ≤ i → i < m + d → g i = false) → ps_bs g w (m + d) = ps_bs g w m := by
  intro d
  induction d with
  | zero => exact fun _ => rfl
  | succ d ih =>
    intro h
    rw [← Nat.add_assoc, ps_bsF (h (m + d) (by omega) (by omega))]
    exact ih (fun i a b => h i a (by omega))
theorem ps_bs_256 {g : Nat → Bool} {w : Nat → Nat} {m : Nat} (hm : m ≤ 256) (h : ∀ i, m ≤ i → i < 256 → g i = false) : ps_bs g w 256 = ps_bs g w m := by
  have e := ps_bs_x (g := g) (w := w) (m := m) (256 - m) (fun i a b => h i a (by omega))
  rw [show m + (256 - m) = 256 by omega] at e
  exact e
def ps_ct (g : Nat → Bool) : Nat → Nat
  | 0 => 0
  | m + 1 => ps_ct g m + (if g m = true then 1 else 0)
theorem ps_ctT {g : Nat → Bool} {m : Nat} (h : g m = true) : ps_ct g (m + 1) = ps_ct g m + 1 := by
  show ps_ct g m + (if g m = true then 1 else 0) = _
  rw [if_pos h]
theorem ps_ctF {g : Nat → Bool} {m : Nat} (h : g m = false) : ps_ct g (m + 1) = ps_ct g m := by
  show ps_ct g m + (if g m = true then 1 else 0) = _
  rw [if_neg (by rw [h]; decide)]
  rfl
theorem ps_ct_le (g : Nat → Bool) (m : Nat) : ps_ct g m ≤ m := by
  induction m with
  | zero => exact Nat.le_refl 0
  | succ m ih =>
    show ps_ct g m + (if g m = true then 1 else 0) ≤ m + 1
    split <;> omega
theorem ps_ct_x {g : Nat → Bool} {m : Nat} : ∀ d, (∀ i, m ≤ i → i < m + d → g i = false) → ps_ct g (m + d) = ps_ct g m := by
  intro d
  induction d with
  | zero => exact fun _ => rfl
  | succ d ih =>
    intro h
    rw [← Nat.add_assoc, ps_ctF (h (m + d) (by omega) (by omega))]
    exact ih (fun i a b => h i a (by omega))
theorem ps_ct_256 {g : Nat → Bool} {m : Nat} (hm : m ≤ 256) (h : ∀ i, m ≤ i → i < 256 → g i = false) : ps_ct g 256 = ps_ct g m := by
  have e := ps_ct_x (g := g) (m := m) (256 - m) (fun i a b => h i a (by omega))
  rw [show m + (256 - m) = 256 by omega] at e
  exact e
def ps_er (P : Nat → Bool) : Nat → Nat → Int32
  | 0, _ => -1
  | d + 1, t => if P t = true then nI t else ps_er P d (t + 1)
theorem ps_erT {P : Nat → Bool} {d t : Nat} (h : P t = true) : ps_er P (d + 1) t = nI t := if_pos h
theorem ps_erF {P : Nat → Bool} {d t : Nat} (h : P t = false) : ps_er P (d + 1) t = ps_er P d (t + 1) := if_neg (by rw [h]; decide)
def ps_ex (p : Nat → Bool) : Nat → Bool
  | 0 => false
  | m + 1 => ps_ex p m || p m
theorem ps_ex_t {p : Nat → Bool} {m : Nat} (h : ps_ex p m = true) : ∀ d, ps_ex p (m + d) = true := by
  intro d
  induction d with
  | zero => exact h
  | succ d ih =>
    show (ps_ex p (m + d) || _) = true
    rw [ih]
    rfl
theorem ps_ex_le {p : Nat → Bool} {m j : Nat} (h : ps_ex p m = true) (hj : m ≤ j) : ps_ex p j = true := by
  have e := ps_ex_t h (j - m)
  rw [show m + (j - m) = j by omega] at e
  exact e
theorem ps_exF {p : Nat → Bool} {m : Nat} (h : p m = false) : ps_ex p (m + 1) = ps_ex p m := by
  show (ps_ex p m || p m) = _
  rw [h, Bool.or_false]
theorem ps_exT {p : Nat → Bool} {m : Nat} (h : p m = true) : ps_ex p (m + 1) = true := by
  show (ps_ex p m || p m) = _
  rw [h, Bool.or_true]
theorem ps_ex_x {p : Nat → Bool} {m : Nat} : ∀ d, (∀ i, m ≤ i → i < m + d → p i = false) → ps_ex p (m + d) = ps_ex p m := by
  intro d
  induction d with
  | zero => exact fun _ => rfl
  | succ d ih =>
    intro h
    rw [← Nat.add_assoc, ps_exF (h (m + d) (by omega) (by omega))]
    exact ih (fun i a b => h i a (by omega))
theorem ps_ex_8 {p : Nat → Bool} {m : Nat} (hm : m ≤ 8) (h : ∀ i, m ≤ i → i < 8 → p i = false) : ps_ex p 8 = ps_ex p m := by
  have e := ps_ex_x (p := p) (m := m) (8 - m) (fun i a b => h i a (by omega))
  rw [show m + (8 - m) = 8 by omega] at e
  exact e
end
section
theorem px_sub {c : Nat} (h : 256 ≤ c) : nI c - 256 = nI (c - 256) := pk_sub (b := 256) h
theorem px_div8 {a : Nat} (h : a < 2 ^ 31) : nI a / 8 = nI (a / 8) := pk_div (d := 8) h (by decide) (by decide)
theorem px_rem8 {a : Nat} (h : a < 2 ^ 31) : nI a - nI a / 8 * 8 = nI (a % 8) := pk_rem (d := 8) h (by decide) (by decide)
theorem px_div64 {a : Nat} (h : a < 2 ^ 31) : nI a / 64 = nI (a / 64) := pk_div (d := 64) h (by decide) (by decide)
theorem px_rem64 {a : Nat} (h : a < 2 ^ 31) : nI a - nI a / 64 * 64 = nI (a % 64) := pk_rem (d := 64) h (by decide) (by decide)
theorem px_shl1 {a : Nat} (h : a < 2 ^ 30) : nI a <<< ((1 : Int32) &&& 31) = nI (2 * a) := by
  rw [pk_shlN ((1 : Int32) &&& 31) 1 (by decide) (by omega), Nat.mul_comm]
theorem px_jv {R n b : Nat} (hR : R < 512) (hn : n ≤ 8) (hb : b < 2) : ((nI R >>> (nI n &&& 31)) <<< ((1 : Int32) &&& 31)) ||| nI b = nI (2 * (R / 2 ^ n) + b) := by
  have h := ps_dle R n
  rw [ps_shr (by omega) (by omega), px_shl1 (by omega), ps_or1 _ _ hb]
theorem px_jloop {post : Int32 → Prop} {R n k : Nat} (hR : R < 512) (hn : n ≤ 8) (hk : k ≤ 8) (hp : post (nI (2 * (R / 2 ^ n) + (if k ≤ ps_cnt R n then 1 else 0)))) :
    ∀ d i, i + d = n → wX_joinLastRoots_28 post (nI R) (nI k) (nI n) (d + 1) (nI (ps_cnt R i)) (nI i) := by
  intro d
  induction d with
  | zero =>
    intro i hi
    cases (show i = n by omega)
    have hc := ps_cnt_le R n
    refine br_t (nI_le (Nat.le_refl _) (by omega)) (pk_lt (ps_cnt R n) k (fun h => ?_) (fun h => ?_))
    · rw [if_neg (by omega)] at hp
      exact ek_v (P := post) (px_jv (b := 0) hR hn (by decide)) hp
    · rw [if_pos h] at hp
      exact ek_v (P := post) (px_jv (b := 1) hR hn (by decide)) hp
  | succ d ih =>
    intro i hi
    refine br_f (nI_ge (by omega) (by omega)) (nm_r (e' := nI (ps_cnt R (i + 1))) ?_ (nm_r (nI_1 i) (ih (i + 1) (by omega))))
    rw [ps_bit (by omega) (by omega), nI_add]
    rfl
theorem px_join {post : Int32 → Prop} {R c : Nat} (hR : R < 512) (h1 : 256 ≤ c) (h2 : c < 320)
    (hp : post (nI (2 * (R / 2 ^ ((c - 256) % 8 + 1)) + (if (c - 256) / 8 + 1 ≤ ps_cnt R ((c - 256) % 8 + 1) then 1 else 0)))) : wpX_joinLastRoots post (nI R) (nI c) := by
  refine ⟨by decide, nm_r (e' := nI ((c - 256) / 8 + 1)) ?_ ⟨by decide, nm_r (e' := nI ((c - 256) % 8 + 1)) ?_ ⟨_, px_jloop hR (by omega) (by omega) hp _ 0 (Nat.zero_add _)⟩⟩⟩
  · rw [px_sub h1, px_div8 (by omega), nI_1]
  · rw [px_sub h1, px_rem8 (by omega), nI_1]
section
variable {ml kw hw aw tc lc rc ck : Nat} {xd xe : Int32} {T L : Nat → Nat} {aS : Nat → Int32}
theorem px_tloop {post : Int32 → Prop} {s : Nat} (hok : ps_ok T tc) (hlk : ps_lk T tc ≤ 8) (htc : tc ≤ 15) (hs : s < 256) (hp : post (ps_i (ps_tr T tc s))) :
    ∀ d i, i + d = tc → wX_isTrue_7 post (nI s) (nI ml) (nI kw) (nI hw) (nI aw) (nI tc) (nI lc) (nI rc) xd xe (nI ck) (fun j => nI (T j)) (fun j => nI (L j)) aS (d + 1) (nI (ps_rv T s i)) (nI (ps_lk T i)) (nI i) := by
  intro d
  induction d with
  | zero =>
    intro i hi
    cases (show i = tc by omega)
    have r := ps_rv_lt (s := s) hok tc (Nat.le_refl _)
    have q := ps_p8 (Nat.le_trans (ps_dp_lk T tc) hlk)
    refine br_t (nI_le (Nat.le_refl _) (by omega)) (pk_eq (ps_rv T s tc) 1 (fun h => ?_) (fun h => ?_) rfl rfl (by omega))
    · rw [ps_tr, decide_eq_true h] at hp
      exact hp
    · rw [ps_tr, decide_eq_false h] at hp
      exact hp
  | succ d ih =>
    intro i hi
    have r := ps_rv_lt (s := s) hok i (by omega)
    have q := ps_p8 (Nat.le_trans (ps_dp_lk T i) (Nat.le_trans (ps_lk_le (show i ≤ tc by omega)) hlk))
    have q2 := Nat.le_trans (ps_lk_le (T := T) (show i ≤ tc by omega)) hlk
    have t := hok i (by omega)
    have n := ih (i + 1) (by omega)
    refine br_f (nI_ge (by omega) (by omega)) ⟨vp_in_nI (by omega) (by omega), nm_r (e' := nI (T i)) (congrArg (fun j => nI (T j)) (nI_clamp (by omega))) ?_⟩
    refine pk_le 256 (T i) (fun h => ?_) (fun h => ?_)
    · rw [ps_rvJ (by omega), ps_lkJ (by omega)] at n
      exact px_join (by omega) h t.1 (nm_r (nI_1 i) n)
    · rw [ps_rvL h, ps_lkL h] at n
      refine nm_r (e' := nI (2 * ps_rv T s i + s / 2 ^ ps_lk T i % 2)) ?_ (nm_r (nI_1 _) (nm_r (nI_1 i) n))
      rw [px_shl1 (by omega), ps_bit (by omega) (by omega), ps_or1 _ _ (ps_b2 _)]
theorem px_true {post : Int32 → Prop} {s : Nat} (hok : ps_ok T tc) (hlk : ps_lk T tc ≤ 8) (htc : tc ≤ 15) (hs : s < 256) (hp : post (ps_i (ps_tr T tc s))) : wpX_isTrue post (nI ml, nI kw, nI hw, nI aw, nI tc, nI lc, nI rc, xd, xe, nI ck, (fun j => nI (T j)), (fun j => nI (L j)), aS) (nI s) :=
  ⟨tc + 1, px_tloop hok hlk htc hs hp tc 0 (Nat.zero_add _)⟩
end
end
section
def ps_sb (s f : Nat) : Bool := decide (nI s &&& (nI f ^^^ (-1)) = 0)
theorem ps_sb_lt {s f m : Nat} (hs : s < 2 ^ 31) (hf : f < m) (h : m ≤ s) : ps_sb s f = false := by
  apply decide_eq_false
  intro e
  have := ps_sble hs e
  omega
def ps_fc (c : Nat) : Prop := 64 ≤ c ∧ c < 256 ∧ (c < 192 → c % 64 < 8)
def ps_hd (e : Int32) (c : Nat) : Bool := bt e ((c / 64 - 1) * 8 + c % 64)
theorem ps_1sh : ∀ p, p < 32 → ∀ i, i < 32 → bt ((1 : Int32) <<< (nI p &&& 31)) i = decide (i = p) := by decide +kernel
theorem ps_hd0 (e : Int32) (p : Nat) (hp : p < 32) : (e &&& ((1 : Int32) <<< (nI p &&& 31))) = 0 ↔ bt e p = false := by
  constructor
  · intro h
    have q : bt (e &&& ((1 : Int32) <<< (nI p &&& 31))) p = false := by
      rw [h]
      exact b_0 p
    rw [b_and, ps_1sh p hp p hp, decide_eq_true rfl, Bool.and_true] at q
    exact q
  · intro h
    apply b_ext
    intro i hi
    rw [b_and, ps_1sh p hp i hi, b_0]
    by_cases e2 : i = p
    · rw [e2, h]
      rfl
    · rw [decide_eq_false e2, Bool.and_false]
theorem px_contains {post : Int32 → Prop} {s i : Nat} (hs : s < 2 ^ 31) (hi : i < 32) (hp : post (ps_i (decide (s / 2 ^ i % 2 = 1)))) : wpX_contains post (nI s) (nI i) := by
  unfold wpX_contains
  rw [ps_bit hs hi]
  have h2 := ps_b2 (s / 2 ^ i)
  refine pk_eq (s / 2 ^ i % 2) 1 (fun h => ?_) (fun h => ?_) rfl rfl (by omega)
  · rw [decide_eq_true h] at hp
    exact hp
  · rw [decide_eq_false h] at hp
    exact hp
theorem px_kind {post : Int32 → Prop} {c : Nat} (hc : c < 2 ^ 31) (hp : post (nI (c / 64))) : wpX_kindOf post (nI c) :=
  ⟨by decide, ek_v (P := post) (px_div64 hc) hp⟩
theorem px_number {post : Int32 → Prop} {c : Nat} (hc : c < 2 ^ 31) (hp : post (nI (c % 64))) : wpX_numberOf post (nI c) :=
  ⟨by decide, ek_v (P := post) (px_rem64 hc) hp⟩
theorem px_subset {post : Int32 → Prop} {s f : Nat} (hp : post (ps_i (ps_sb s f))) : wpX_isSubset post (nI s) (nI f) := by
  refine br_c (fun h => ?_) (fun h => ?_)
  · rw [ps_sb, decide_eq_true h] at hp
    exact hp
  · rw [ps_sb, decide_eq_false h] at hp
    exact hp
theorem px_kn {c : Nat} (h : 64 ≤ c) : (nI (c / 64) - 1) * 8 + nI (c % 64) = nI ((c / 64 - 1) * 8 + c % 64) := by
  have e : nI (c / 64) - 1 = nI (c / 64 - 1) := pk_sub (b := 1) (by omega)
  have e2 : nI (c / 64 - 1) * 8 = nI ((c / 64 - 1) * 8) := pk_mul _ 8
  rw [e, e2, nI_add]
section
variable {ml kw hw aw tc lc rc ck : Nat} {xd xe : Int32} {T L : Nat → Nat} {aS : Nat → Int32}
theorem px_held {post : Int32 → Prop} {c : Nat} (h1 : 64 ≤ c) (h2 : c < 192) (h3 : c % 64 < 8) (hp : post (ps_i (ps_hd xe c))) : wpX_isHeld post (nI ml, nI kw, nI hw, nI aw, nI tc, nI lc, nI rc, xd, xe, nI ck, (fun j => nI (T j)), (fun j => nI (L j)), aS) (nI (c / 64)) (nI (c % 64)) := by
  unfold wpX_isHeld wpX_secretBit
  dsimp only
  rw [px_kn h1]
  refine ek_if (ps_hd0 xe _ (by omega)) (fun h => ?_) (fun h => ?_)
  · rw [ps_hd, h] at hp
    exact hp
  · rw [ps_hd, ps_nt h] at hp
    exact hp
def ps_fs (L : Nat → Nat) (s j : Nat) : Nat := if s / 2 ^ j % 2 = 1 then L j else 0
theorem px_floop {post : SX → Prop} {s : Nat} (hlc : lc ≤ 8) (hs : s < 2 ^ 31)
    (hp : ∀ a : Nat → Int32, (∀ j, j < lc → a j = nI (ps_fs L s j)) → post (nI ml, nI kw, nI hw, nI aw, nI tc, nI lc, nI rc, xd, xe, nI ck, (fun j => nI (T j)), (fun j => nI (L j)), a)) :
    ∀ d i (a : Nat → Int32), i + d = lc → (∀ j, j < i → a j = nI (ps_fs L s j)) → wX_fillSlots_2 post (nI s) (nI ml) (nI kw) (nI hw) (nI aw) (nI tc) (nI lc) (nI rc) xd xe (nI ck) (d + 1) (nI i) (fun j => nI (T j)) (fun j => nI (L j)) a := by
  intro d
  induction d with
  | zero =>
    intro i a hi ha
    cases (show i = lc by omega)
    exact br_t (nI_le (Nat.le_refl _) (by omega)) (hp a ha)
  | succ d ih =>
    intro i a hi ha
    refine br_f (nI_ge (by omega) (by omega)) (px_contains hs (by omega) ?_)
    have st : ∀ x : Int32, x = nI (ps_fs L s i) → ∀ j, j < i + 1 → upd a (nI i).toNatClampNeg x j = nI (ps_fs L s j) := by
      intro x hx j hj
      rw [nI_clamp (by omega)]
      by_cases e : j = i
      · rw [e, pk_us, hx]
      · rw [pk_un e]
        exact ha j (by omega)
    by_cases b : s / 2 ^ i % 2 = 1
    · rw [decide_eq_true b]
      refine br_f (by decide) ⟨vp_in_nI (by omega) (by omega), ⟨vp_in_nI (by omega) (by omega), nm_e (nm_r (nI_1 i) (ih (i + 1) _ (by omega) (st _ ?_)))⟩⟩
      rw [ps_fs, if_pos b, nI_clamp (by omega)]
    · rw [decide_eq_false b]
      refine br_t (by decide) ⟨vp_in_nI (by omega) (by omega), nm_e (nm_r (nI_1 i) (ih (i + 1) _ (by omega) (st _ ?_)))⟩
      rw [ps_fs, if_neg b]
      rfl
theorem px_fill {post : SX → Prop} {s : Nat} (hlc : lc ≤ 8) (hs : s < 2 ^ 31)
    (hp : ∀ a : Nat → Int32, (∀ j, j < lc → a j = nI (ps_fs L s j)) → post (nI ml, nI kw, nI hw, nI aw, nI tc, nI lc, nI rc, xd, xe, nI ck, (fun j => nI (T j)), (fun j => nI (L j)), a)) : wpX_fillSlots post (nI ml, nI kw, nI hw, nI aw, nI tc, nI lc, nI rc, xd, xe, nI ck, (fun j => nI (T j)), (fun j => nI (L j)), aS) (nI s) :=
  ⟨lc + 1, px_floop hlc hs hp lc 0 aS (Nat.zero_add _) (fun j h => absurd h (Nat.not_lt_zero j))⟩
theorem px_set {p : Nat → Bool} {i : Nat} (h : i < 31) : nI (ps_mk p i) ||| ((1 : Int32) <<< (nI i &&& 31)) = nI (ps_mk p i + 2 ^ i) := by
  rw [ps_one i h, ps_orT _ _ (ps_mk_lt p i)]
theorem px_kloop {post : Int32 → Prop} (hlc : lc ≤ 8) (hL : ∀ j, j < lc → ps_fc (L j)) (hp : post (nI (ps_mk (fun i => decide (¬ L i / 64 = 1)) lc))) :
    ∀ d i, i + d = lc → wX_keylessLocks_4 post (nI ml) (nI kw) (nI hw) (nI aw) (nI tc) (nI lc) (nI rc) xd xe (nI ck) (fun j => nI (T j)) (fun j => nI (L j)) aS (d + 1) (nI (ps_mk (fun i => decide (¬ L i / 64 = 1)) i)) (nI i) := by
  intro d
  induction d with
  | zero =>
    intro i hi
    cases (show i = lc by omega)
    exact br_t (nI_le (Nat.le_refl _) (by omega)) hp
  | succ d ih =>
    intro i hi
    have n := ih (i + 1) (by omega)
    have l := hL i (by omega)
    refine br_f (nI_ge (by omega) (by omega)) ⟨vp_in_nI (by omega) (by omega), ?_⟩
    rw [nI_clamp (by omega)]
    refine px_kind (by have := l.2.1; omega) (pk_eq (L i / 64) 1 (fun h => ?_) (fun h => ?_) rfl rfl (by have := l.2.1; omega))
    · rw [ps_mkF (by simp [h])] at n
      exact nm_r (nI_1 i) n
    · rw [ps_mkT (by simp [h])] at n
      exact nm_r (px_set (by omega)) (nm_r (nI_1 i) n)
theorem px_keyless {post : Int32 → Prop} (hlc : lc ≤ 8) (hL : ∀ j, j < lc → ps_fc (L j)) (hp : post (nI (ps_mk (fun i => decide (¬ L i / 64 = 1)) lc))) : wpX_keylessLocks post (nI ml, nI kw, nI hw, nI aw, nI tc, nI lc, nI rc, xd, xe, nI ck, (fun j => nI (T j)), (fun j => nI (L j)), aS) :=
  ⟨lc + 1, px_kloop hlc hL hp lc 0 (Nat.zero_add _)⟩
def ps_ow (L : Nat → Nat) (e : Int32) (t i : Nat) : Bool := if L i / 64 = 3 then decide (L i % 64 ≤ t) else ps_hd e (L i)
theorem px_ostep {post : Int32 → Prop} {J : Int32 → Int32 → Prop} {p : Nat → Bool} {i : Nat} {x : Int32} (hi : i < 31) (hJ : J (nI (ps_mk p (i + 1))) (nI (i + 1))) :
    wX_ownersLocks_62 post J x (nI (ps_mk p i)) (nI i) (ps_i (p i)) (nI ml) (nI kw) (nI hw) (nI aw) (nI tc) (nI lc) (nI rc) xd xe (nI ck) (fun j => nI (T j)) (fun j => nI (L j)) aS := by
  refine ek_if (ps_i0 (p i)) (fun h => ?_) (fun h => ?_)
  · rw [ps_mkF h] at hJ
    exact nm_r (nI_1 i) hJ
  · rw [ps_mkT (ps_nt h)] at hJ
    exact nm_r (px_set hi) (nm_r (nI_1 i) hJ)
theorem px_oloop {post : Int32 → Prop} {t : Nat} (hlc : lc ≤ 8) (ht : t < 64) (hL : ∀ j, j < lc → ps_fc (L j)) (hp : post (nI (ps_mk (ps_ow L xe t) lc))) :
    ∀ d i, i + d = lc → wX_ownersLocks_4 post (nI t) (nI ml) (nI kw) (nI hw) (nI aw) (nI tc) (nI lc) (nI rc) xd xe (nI ck) (fun j => nI (T j)) (fun j => nI (L j)) aS (d + 1) (nI (ps_mk (ps_ow L xe t) i)) (nI i) := by
  intro d
  induction d with
  | zero =>
    intro i hi
    cases (show i = lc by omega)
    exact br_t (nI_le (Nat.le_refl _) (by omega)) hp
  | succ d ih =>
    intro i hi
    have n := ih (i + 1) (by omega)
    have l := hL i (by omega)
    obtain ⟨l1, l2, l3⟩ := l
    refine br_f (nI_ge (by omega) (by omega)) ⟨vp_in_nI (by omega) (by omega), ?_⟩
    rw [nI_clamp (by omega)]
    refine px_kind (by omega) ⟨vp_in_nI (by omega) (by omega), px_number (by omega) (pk_eq (L i / 64) 3 (fun h => ?_) (fun h => ?_))⟩
    · refine pk_lt t (L i % 64) (fun q => ?_) (fun q => ?_)
      · have e : ps_ow L xe t i = false := by
          rw [ps_ow, if_pos h]
          exact decide_eq_false (by omega)
        have g := px_ostep (ml := ml) (kw := kw) (hw := hw) (aw := aw) (tc := tc) (lc := lc) (rc := rc) (ck := ck) (xd := xd) (xe := xe) (T := T) (L := L) (aS := aS) (post := post) (x := nI t) (p := ps_ow L xe t) (i := i) (by omega) n
        rw [e] at g
        exact g
      · have e : ps_ow L xe t i = true := by
          rw [ps_ow, if_pos h]
          exact decide_eq_true q
        have g := px_ostep (ml := ml) (kw := kw) (hw := hw) (aw := aw) (tc := tc) (lc := lc) (rc := rc) (ck := ck) (xd := xd) (xe := xe) (T := T) (L := L) (aS := aS) (post := post) (x := nI t) (p := ps_ow L xe t) (i := i) (by omega) n
        rw [e] at g
        exact g
    · have e : ps_ow L xe t i = ps_hd xe (L i) := by rw [ps_ow, if_neg h]
      refine px_held l1 (by omega) (l3 (by omega)) ?_
      rw [← e]
      exact px_ostep (by omega) n
theorem px_owners {post : Int32 → Prop} {t : Nat} (hlc : lc ≤ 8) (ht : t < 64) (hL : ∀ j, j < lc → ps_fc (L j)) (hp : post (nI (ps_mk (ps_ow L xe t) lc))) : wpX_ownersLocks post (nI ml, nI kw, nI hw, nI aw, nI tc, nI lc, nI rc, xd, xe, nI ck, (fun j => nI (T j)), (fun j => nI (L j)), aS) (nI t) :=
  ⟨lc + 1, px_oloop hlc ht hL hp lc 0 (Nat.zero_add _)⟩
end
end
section
def ps_w (kw hw aw k : Nat) : Nat := if k = 1 then kw else if k = 2 then hw else aw
section
variable {ml kw hw aw tc lc rc ck : Nat} {xd xe : Int32} {T L : Nat → Nat} {aS : Nat → Int32}
theorem px_wk {post : Int32 → Prop} {k : Nat} (hk : k < 4) (hp : post (nI (ps_w kw hw aw k))) : wpX_weightOfKind post (nI ml, nI kw, nI hw, nI aw, nI tc, nI lc, nI rc, xd, xe, nI ck, (fun j => nI (T j)), (fun j => nI (L j)), aS) (nI k) := by
  refine pk_eq k 1 (fun h => ?_) (fun h => pk_eq k 2 (fun h2 => ?_) (fun h2 => ?_))
  · rw [ps_w, if_pos h] at hp
    exact hp
  · rw [ps_w, if_neg h, if_pos h2] at hp
    exact hp
  · rw [ps_w, if_neg h, if_neg h2] at hp
    exact hp
theorem px_wloop {post : Int32 → Prop} {s : Nat} (hlc : lc ≤ 8) (hs : s < 2 ^ 31) (hL : ∀ j, j < lc → ps_fc (L j)) (hp : post (nI (ps_wt (ps_w kw hw aw) L s lc))) :
    ∀ d i, i + d = lc → wX_weightOf_4 post (nI s) (nI ml) (nI kw) (nI hw) (nI aw) (nI tc) (nI lc) (nI rc) xd xe (nI ck) (fun j => nI (T j)) (fun j => nI (L j)) aS (d + 1) (nI (ps_wt (ps_w kw hw aw) L s i)) (nI i) := by
  intro d
  induction d with
  | zero =>
    intro i hi
    cases (show i = lc by omega)
    exact br_t (nI_le (Nat.le_refl _) (by omega)) hp
  | succ d ih =>
    intro i hi
    have n := ih (i + 1) (by omega)
    obtain ⟨l1, l2, l3⟩ := hL i (by omega)
    refine br_f (nI_ge (by omega) (by omega)) (px_contains hs (by omega) ?_)
    by_cases b : s / 2 ^ i % 2 = 1
    · rw [decide_eq_true b]
      refine br_f (by decide) ⟨vp_in_nI (by omega) (by omega), ?_⟩
      rw [nI_clamp (by omega)]
      refine px_kind (by omega) (px_wk (by omega) (nm_r (e' := nI (ps_wt (ps_w kw hw aw) L s (i + 1))) ?_ (nm_r (nI_1 i) n)))
      rw [nI_add]
      refine congrArg nI ?_
      show _ = ps_wt (ps_w kw hw aw) L s i + (if s / 2 ^ i % 2 = 1 then ps_w kw hw aw (L i / 64) else 0)
      rw [if_pos b]
    · rw [decide_eq_false b]
      have e : ps_wt (ps_w kw hw aw) L s (i + 1) = ps_wt (ps_w kw hw aw) L s i := by
        show ps_wt (ps_w kw hw aw) L s i + (if s / 2 ^ i % 2 = 1 then ps_w kw hw aw (L i / 64) else 0) = _
        rw [if_neg b]
        rfl
      rw [e] at n
      exact br_t (by decide) (nm_r (nI_1 i) n)
theorem px_weight {post : Int32 → Prop} {s : Nat} (hlc : lc ≤ 8) (hs : s < 2 ^ 31) (hL : ∀ j, j < lc → ps_fc (L j)) (hp : post (nI (ps_wt (ps_w kw hw aw) L s lc))) : wpX_weightOf post (nI ml, nI kw, nI hw, nI aw, nI tc, nI lc, nI rc, xd, xe, nI ck, (fun j => nI (T j)), (fun j => nI (L j)), aS) (nI s) :=
  ⟨lc + 1, px_wloop hlc hs hL hp lc 0 (Nat.zero_add _)⟩
theorem ps_w_le (h1 : kw ≤ 99) (h2 : hw ≤ 99) (h3 : aw ≤ 99) : ∀ k, ps_w kw hw aw k ≤ 99 := by
  intro k
  unfold ps_w
  split
  · exact h1
  · split
    · exact h2
    · exact h3
theorem px_better {post : Int32 → Prop} {s o : Nat} (hlc : lc ≤ 8) (hs : s < 2 ^ 31) (ho : o ≤ s) (hL : ∀ j, j < lc → ps_fc (L j)) (h1 : kw ≤ 99) (h2 : hw ≤ 99) (h3 : aw ≤ 99)
    (hp : post (ps_i (decide (ps_wt (ps_w kw hw aw) L s lc < ps_wt (ps_w kw hw aw) L o lc)))) : wpX_isBetter post (nI ml, nI kw, nI hw, nI aw, nI tc, nI lc, nI rc, xd, xe, nI ck, (fun j => nI (T j)), (fun j => nI (L j)), aS) (nI s) (nI o) := by
  unfold wpX_isBetter
  refine px_weight hlc hs hL (px_weight hlc (by omega) hL ?_)
  have b1 := ps_wt_le (L := L) (s := s) (ps_w_le h1 h2 h3) lc
  have b2 := ps_wt_le (L := L) (s := o) (ps_w_le h1 h2 h3) lc
  refine pk_lt _ _ (fun h => ?_) (fun h => ?_) rfl rfl (by omega) (by omega)
  · rw [decide_eq_true h] at hp
    exact hp
  · rw [decide_eq_false (by omega)] at hp
    exact br_c (fun _ => br_t (nI_le ho hs) hp) (fun _ => hp)
theorem px_bloop {post : Int32 → Prop} {f : Nat} (hok : ps_ok T tc) (hlk : ps_lk T tc ≤ 8) (htc : tc ≤ 15) (hlc : lc ≤ 8) (hL : ∀ j, j < lc → ps_fc (L j)) (h1 : kw ≤ 99) (h2 : hw ≤ 99) (h3 : aw ≤ 99)
    (hp : post (nI (ps_bs (fun s => ps_sb s f && ps_tr T tc s) (fun s => ps_wt (ps_w kw hw aw) L s lc) (2 ^ lc)))) :
    ∀ d i, 1 ≤ i → i + d = 2 ^ lc → wX_bestTrueSubset_4 post (nI f) (nI ml) (nI kw) (nI hw) (nI aw) (nI tc) (nI lc) (nI rc) xd xe (nI ck) (fun j => nI (T j)) (fun j => nI (L j)) aS (d + 1) (nI (ps_bs (fun s => ps_sb s f && ps_tr T tc s) (fun s => ps_wt (ps_w kw hw aw) L s lc) i)) (nI i) := by
  have h8 := ps_p8 hlc
  intro d
  induction d with
  | zero =>
    intro i h0 hi
    cases (show i = 2 ^ lc by omega)
    refine br_t ?_ hp
    rw [ps_one lc (by omega)]
    exact nI_le (Nat.le_refl _) (by omega)
  | succ d ih =>
    intro i h0 hi
    have n := ih (i + 1) (by omega) (by omega)
    refine br_f ?_ (px_subset ?_)
    · rw [ps_one lc (by omega)]
      exact nI_ge (by omega) (by omega)
    by_cases c1 : ps_sb i f = true
    · rw [c1]
      refine br_f (by decide) (px_true hok hlk htc (by omega) ?_)
      by_cases c2 : ps_tr T tc i = true
      · rw [c2]
        have g : (fun s => ps_sb s f && ps_tr T tc s) i = true := by
          show (ps_sb i f && ps_tr T tc i) = true
          rw [c1, c2]
          rfl
        have bi := ps_bs_in (fun s => ps_sb s f && ps_tr T tc s) (fun s => ps_wt (ps_w kw hw aw) L s lc) i
        refine br_f (by decide) (pk_eq _ 0 (fun z => ?_) (fun z => ?_) rfl rfl (by omega))
        · rw [ps_bsT g (Or.inl z)] at n
          exact nm_r (nI_1 i) n
        · refine px_better hlc (by omega) (by omega) hL h1 h2 h3 ?_
          by_cases c3 : ps_wt (ps_w kw hw aw) L i lc < ps_wt (ps_w kw hw aw) L (ps_bs (fun s => ps_sb s f && ps_tr T tc s) (fun s => ps_wt (ps_w kw hw aw) L s lc) i) lc
          · rw [decide_eq_true c3]
            rw [ps_bsT g (Or.inr c3)] at n
            exact br_f (by decide) (nm_r (nI_1 i) n)
          · rw [decide_eq_false c3]
            rw [ps_bsN z c3] at n
            exact br_t (by decide) (nm_r (nI_1 i) n)
      · rw [ps_nf c2]
        rw [ps_bsF (by show (ps_sb i f && ps_tr T tc i) = false; rw [ps_nf c2, Bool.and_false])] at n
        exact br_t (by decide) (nm_r (nI_1 i) n)
    · rw [ps_nf c1]
      rw [ps_bsF (by show (ps_sb i f && ps_tr T tc i) = false; rw [ps_nf c1, Bool.false_and])] at n
      exact br_t (by decide) (nm_r (nI_1 i) n)
theorem px_best {post : Int32 → Prop} {f : Nat} (hok : ps_ok T tc) (hlk : ps_lk T tc ≤ 8) (htc : tc ≤ 15) (hlc : lc ≤ 8) (hL : ∀ j, j < lc → ps_fc (L j)) (h1 : kw ≤ 99) (h2 : hw ≤ 99) (h3 : aw ≤ 99)
    (hp : post (nI (ps_bs (fun s => ps_sb s f && ps_tr T tc s) (fun s => ps_wt (ps_w kw hw aw) L s lc) (2 ^ lc)))) : wpX_bestTrueSubset post (nI ml, nI kw, nI hw, nI aw, nI tc, nI lc, nI rc, xd, xe, nI ck, (fun j => nI (T j)), (fun j => nI (L j)), aS) (nI f) := by
  have h8 := ps_p0 lc
  have z := px_bloop (ml := ml) (rc := rc) (ck := ck) (xd := xd) (xe := xe) (aS := aS) hok hlk htc hlc hL h1 h2 h3 hp (2 ^ lc - 1) 1 (Nat.le_refl 1) (by omega)
  rw [ps_bs1] at z
  exact ⟨_, z⟩
theorem px_take {post : Int32 → SX → Prop} {s : Nat} (hlc : lc ≤ 8) (hs : s < 2 ^ 31) (hL : ∀ j, j < lc → ps_fc (L j))
    (h0 : s = 0 → post (-1) (nI ml, nI kw, nI hw, nI aw, nI tc, nI lc, nI rc, xd, xe, nI ck, (fun j => nI (T j)), (fun j => nI (L j)), aS))
    (hp : ¬ s = 0 → ∀ a : Nat → Int32, (∀ j, j < lc → a j = nI (ps_fs L s j)) → post (nI (ps_wt (ps_w kw hw aw) L s lc)) (nI ml, nI kw, nI hw, nI aw, nI tc, nI lc, nI rc, xd, xe, nI ck, (fun j => nI (T j)), (fun j => nI (L j)), a)) : wpX_takeAsWitness post (nI ml, nI kw, nI hw, nI aw, nI tc, nI lc, nI rc, xd, xe, nI ck, (fun j => nI (T j)), (fun j => nI (L j)), aS) (nI s) := by
  refine pk_eq s 0 (fun z => h0 z) (fun z => ?_)
  exact px_fill hlc hs (fun a ha => px_weight hlc hs hL (hp z a ha))
end
end
section
section
variable {ml kw hw aw tc lc rc ck : Nat} {xd xe : Int32} {T L : Nat → Nat} {aS : Nat → Int32}
theorem px_mloop {post : Int32 → Prop} {s : Nat} (hok : ps_ok T tc) (hlk : ps_lk T tc ≤ 8) (htc : tc ≤ 15) (hlc : lc ≤ 8) (hs : s < 256) (hp : post (ps_i (ps_mnA (ps_tr T tc) s lc))) :
    ∀ d i, i + d = lc → ps_mnA (ps_tr T tc) s i = true → wX_isMinimal_12 post (nI s) (nI ml) (nI kw) (nI hw) (nI aw) (nI tc) (nI lc) (nI rc) xd xe (nI ck) (fun j => nI (T j)) (fun j => nI (L j)) aS (d + 1) (nI i) := by
  intro d
  induction d with
  | zero =>
    intro i hi hm
    cases (show i = lc by omega)
    rw [hm] at hp
    exact br_t (nI_le (Nat.le_refl _) (by omega)) hp
  | succ d ih =>
    intro i hi hm
    have n := ih (i + 1) (by omega)
    have st : ps_mnA (ps_tr T tc) s (i + 1) = !(decide (s / 2 ^ i % 2 = 1) && ps_tr T tc (s - 2 ^ i)) := by
      show (ps_mnA (ps_tr T tc) s i && _) = _
      rw [hm, Bool.true_and]
    refine br_f (nI_ge (by omega) (by omega)) (px_contains (by omega) (by omega) ?_)
    by_cases b : s / 2 ^ i % 2 = 1
    · rw [decide_eq_true b] at st ⊢
      refine br_f (by decide) ?_
      rw [ps_clr s hs i (by omega) b]
      refine px_true hok hlk htc (Nat.lt_of_le_of_lt (Nat.sub_le _ _) hs) ?_
      by_cases c : ps_tr T tc (s - 2 ^ i) = true
      · rw [c] at st ⊢
        rw [ps_mnA_le st (show i + 1 ≤ lc by omega)] at hp
        exact br_f (by decide) hp
      · rw [ps_nf c] at st ⊢
        exact br_t (by decide) (nm_r (nI_1 i) (n st))
    · rw [decide_eq_false b] at st ⊢
      exact br_t (by decide) (nm_r (nI_1 i) (n st))
theorem px_min {post : Int32 → Prop} {s : Nat} (hok : ps_ok T tc) (hlk : ps_lk T tc ≤ 8) (htc : tc ≤ 15) (hlc : lc ≤ 8) (hs : s < 256) (hp : post (ps_i (ps_mn (ps_tr T tc) lc s))) : wpX_isMinimal post (nI ml, nI kw, nI hw, nI aw, nI tc, nI lc, nI rc, xd, xe, nI ck, (fun j => nI (T j)), (fun j => nI (L j)), aS) (nI s) := by
  unfold wpX_isMinimal
  refine px_true hok hlk htc hs ?_
  by_cases c : ps_tr T tc s = true
  · rw [ps_mn, c, Bool.true_and] at hp
    rw [c]
    exact br_f (by decide) ⟨lc + 1, px_mloop hok hlk htc hlc hs hp lc 0 (Nat.zero_add _) rfl⟩
  · rw [ps_mn, ps_nf c, Bool.false_and] at hp
    rw [ps_nf c]
    exact br_t (by decide) hp
def ps_gm (T : Nat → Nat) (tc lc f x s : Nat) : Bool := decide (¬ s = x) && (ps_sb s f && ps_mn (ps_tr T tc) lc s)
theorem px_nloop {post : Int32 → Prop} {f x : Nat} (hok : ps_ok T tc) (hlk : ps_lk T tc ≤ 8) (htc : tc ≤ 15) (hlc : lc ≤ 8) (hL : ∀ j, j < lc → ps_fc (L j)) (h1 : kw ≤ 99) (h2 : hw ≤ 99) (h3 : aw ≤ 99) (hx : x < 256)
    (hp : post (nI (ps_bs (ps_gm T tc lc f x) (fun s => ps_wt (ps_w kw hw aw) L s lc) (2 ^ lc)))) :
    ∀ d i, 1 ≤ i → i + d = 2 ^ lc → wX_bestMinimalSubset_5 post (nI f) (nI x) (nI ml) (nI kw) (nI hw) (nI aw) (nI tc) (nI lc) (nI rc) xd xe (nI ck) (fun j => nI (T j)) (fun j => nI (L j)) aS (d + 1) (nI (ps_bs (ps_gm T tc lc f x) (fun s => ps_wt (ps_w kw hw aw) L s lc) i)) (nI i) := by
  have h8 := ps_p8 hlc
  intro d
  induction d with
  | zero =>
    intro i h0 hi
    cases (show i = 2 ^ lc by omega)
    refine br_t ?_ hp
    rw [ps_one lc (by omega)]
    exact nI_le (Nat.le_refl _) (by omega)
  | succ d ih =>
    intro i h0 hi
    have n := ih (i + 1) (by omega) (by omega)
    refine br_f ?_ (pk_eq i x (fun e => ?_) (fun e => px_subset ?_))
    · rw [ps_one lc (by omega)]
      exact nI_ge (by omega) (by omega)
    · rw [ps_bsF (by rw [ps_gm, decide_eq_false (by omega), Bool.false_and])] at n
      exact nm_r (nI_1 i) n
    by_cases c1 : ps_sb i f = true
    · rw [c1]
      refine br_f (by decide) (px_min hok hlk htc hlc (by omega) ?_)
      by_cases c2 : ps_mn (ps_tr T tc) lc i = true
      · rw [c2]
        have g : ps_gm T tc lc f x i = true := by
          rw [ps_gm, c1, c2, decide_eq_true e]
          rfl
        have bi := ps_bs_in (ps_gm T tc lc f x) (fun s => ps_wt (ps_w kw hw aw) L s lc) i
        refine br_f (by decide) (pk_eq _ 0 (fun z => ?_) (fun z => ?_) rfl rfl (by omega))
        · rw [ps_bsT g (Or.inl z)] at n
          exact nm_r (nI_1 i) n
        · refine px_better hlc (by omega) (by omega) hL h1 h2 h3 ?_
          by_cases c3 : ps_wt (ps_w kw hw aw) L i lc < ps_wt (ps_w kw hw aw) L (ps_bs (ps_gm T tc lc f x) (fun s => ps_wt (ps_w kw hw aw) L s lc) i) lc
          · rw [decide_eq_true c3]
            rw [ps_bsT g (Or.inr c3)] at n
            exact br_f (by decide) (nm_r (nI_1 i) n)
          · rw [decide_eq_false c3]
            rw [ps_bsN z c3] at n
            exact br_t (by decide) (nm_r (nI_1 i) n)
      · rw [ps_nf c2]
        rw [ps_bsF (by rw [ps_gm, ps_nf c2, Bool.and_false, Bool.and_false])] at n
        exact br_t (by decide) (nm_r (nI_1 i) n)
    · rw [ps_nf c1]
      rw [ps_bsF (by rw [ps_gm, ps_nf c1, Bool.false_and, Bool.and_false])] at n
      exact br_t (by decide) (nm_r (nI_1 i) n)
theorem px_bestm {post : Int32 → Prop} {f x : Nat} (hok : ps_ok T tc) (hlk : ps_lk T tc ≤ 8) (htc : tc ≤ 15) (hlc : lc ≤ 8) (hL : ∀ j, j < lc → ps_fc (L j)) (h1 : kw ≤ 99) (h2 : hw ≤ 99) (h3 : aw ≤ 99) (hx : x < 256)
    (hp : post (nI (ps_bs (ps_gm T tc lc f x) (fun s => ps_wt (ps_w kw hw aw) L s lc) (2 ^ lc)))) : wpX_bestMinimalSubset post (nI ml, nI kw, nI hw, nI aw, nI tc, nI lc, nI rc, xd, xe, nI ck, (fun j => nI (T j)), (fun j => nI (L j)), aS) (nI f) (nI x) := by
  have h8 := ps_p0 lc
  have z := px_nloop (ml := ml) (rc := rc) (ck := ck) (xd := xd) (xe := xe) (aS := aS) hok hlk htc hlc hL h1 h2 h3 hx hp (2 ^ lc - 1) 1 (Nat.le_refl 1) (by omega)
  rw [ps_bs1] at z
  exact ⟨_, z⟩
theorem px_vloop {post : Int32 → Prop} {f : Nat} (hok : ps_ok T tc) (hlk : ps_lk T tc ≤ 8) (htc : tc ≤ 15) (hlc : lc ≤ 8)
    (hp : post (nI (ps_ct (fun s => ps_sb s f && ps_mn (ps_tr T tc) lc s) (2 ^ lc)))) :
    ∀ d i, i + d = 2 ^ lc → wX_variants_19 post (nI f) (nI ml) (nI kw) (nI hw) (nI aw) (nI tc) (nI lc) (nI rc) xd xe (nI ck) (fun j => nI (T j)) (fun j => nI (L j)) aS (d + 1) (nI (ps_ct (fun s => ps_sb s f && ps_mn (ps_tr T tc) lc s) i)) (nI i) := by
  have h8 := ps_p8 hlc
  intro d
  induction d with
  | zero =>
    intro i hi
    cases (show i = 2 ^ lc by omega)
    refine br_t ?_ hp
    rw [ps_one lc (by omega)]
    exact nI_le (Nat.le_refl _) (by omega)
  | succ d ih =>
    intro i hi
    have n := ih (i + 1) (by omega)
    refine br_f ?_ (px_subset ?_)
    · rw [ps_one lc (by omega)]
      exact nI_ge (by omega) (by omega)
    by_cases c1 : ps_sb i f = true
    · rw [c1]
      refine br_f (by decide) (px_min hok hlk htc hlc (by omega) ?_)
      by_cases c2 : ps_mn (ps_tr T tc) lc i = true
      · rw [c2]
        rw [ps_ctT (by show (ps_sb i f && ps_mn (ps_tr T tc) lc i) = true; rw [c1, c2]; rfl)] at n
        exact br_f (by decide) (nm_r (nI_1 _) (nm_r (nI_1 i) n))
      · rw [ps_nf c2]
        rw [ps_ctF (by show (ps_sb i f && ps_mn (ps_tr T tc) lc i) = false; rw [ps_nf c2, Bool.and_false])] at n
        exact br_t (by decide) (nm_r (nI_1 i) n)
    · rw [ps_nf c1]
      rw [ps_ctF (by show (ps_sb i f && ps_mn (ps_tr T tc) lc i) = false; rw [ps_nf c1, Bool.false_and])] at n
      exact br_t (by decide) (nm_r (nI_1 i) n)
end
end
section
def ps_in (S : Nat → Nat) (c i : Nat) : Bool := decide (S i = c)
def ps_on (L S : Nat → Nat) (ck lc i : Nat) : Bool := if L i / 64 = 1 then ps_ex (ps_in S (L i)) lc else if L i / 64 = 2 then true else decide (L i % 64 ≤ ck)
def ps_fl (S : Nat → Nat) (i : Nat) : Bool := decide (¬ S i = 0)
def ps_ft (L S : Nat → Nat) (ck i : Nat) : Bool := decide (S i = L i) && (decide (¬ L i / 64 = 3) || decide (L i % 64 ≤ ck))
section
variable {ml kw hw aw tc lc rc ck : Nat} {xd xe : Int32} {T L S : Nat → Nat} {aS : Nat → Int32}
theorem px_sloop {post : Int32 → Prop} {c : Nat} (hlc : lc ≤ 8) (hS : ∀ j, j < lc → aS j = nI (S j)) (hb : ∀ j, j < lc → S j < 256) (hc : c < 256) (hp : post (ps_i (ps_ex (ps_in S c) lc))) :
    ∀ d i, i + d = lc → ps_ex (ps_in S c) i = false → wX_isInSomeSlot_2 post (nI c) (nI ml) (nI kw) (nI hw) (nI aw) (nI tc) (nI lc) (nI rc) xd xe (nI ck) (fun j => nI (T j)) (fun j => nI (L j)) aS (d + 1) (nI i) := by
  intro d
  induction d with
  | zero =>
    intro i hi hm
    cases (show i = lc by omega)
    rw [hm] at hp
    exact br_t (nI_le (Nat.le_refl _) (by omega)) hp
  | succ d ih =>
    intro i hi hm
    have b := hb i (by omega)
    refine br_f (nI_ge (by omega) (by omega)) ⟨vp_in_nI (by omega) (by omega), ?_⟩
    rw [nI_clamp (by omega), hS i (by omega)]
    refine pk_eq (S i) c (fun h => ?_) (fun h => ?_)
    · rw [ps_ex_le (ps_exT (p := ps_in S c) (m := i) (decide_eq_true h)) (show i + 1 ≤ lc by omega)] at hp
      exact hp
    · refine nm_r (nI_1 i) (ih (i + 1) (by omega) ?_)
      rw [ps_exF (p := ps_in S c) (decide_eq_false h)]
      exact hm
theorem px_some {post : Int32 → Prop} {c : Nat} (hlc : lc ≤ 8) (hS : ∀ j, j < lc → aS j = nI (S j)) (hb : ∀ j, j < lc → S j < 256) (hc : c < 256) (hp : post (ps_i (ps_ex (ps_in S c) lc))) : wpX_isInSomeSlot post (nI ml, nI kw, nI hw, nI aw, nI tc, nI lc, nI rc, xd, xe, nI ck, (fun j => nI (T j)), (fun j => nI (L j)), aS) (nI c) :=
  ⟨lc + 1, px_sloop hlc hS hb hc hp lc 0 (Nat.zero_add _) rfl⟩
theorem px_onh {post : Int32 → Prop} {i : Nat} (hlc : lc ≤ 8) (hck : ck < 64) (hS : ∀ j, j < lc → aS j = nI (S j)) (hb : ∀ j, j < lc → S j < 256) (hl : ps_fc (L i)) (hp : post (ps_i (ps_on L S ck lc i))) : wpX_onlookerHas post (nI ml, nI kw, nI hw, nI aw, nI tc, nI lc, nI rc, xd, xe, nI ck, (fun j => nI (T j)), (fun j => nI (L j)), aS) (nI (L i)) := by
  obtain ⟨l1, l2, l3⟩ := hl
  unfold wpX_onlookerHas
  refine px_kind (by omega) (pk_eq (L i / 64) 1 (fun h => ?_) (fun h => ?_))
  · rw [ps_on, if_pos h] at hp
    exact px_some hlc hS hb l2 ⟨ps_nb _, hp⟩
  · rw [ps_on, if_neg h] at hp
    refine pk_eq (L i / 64) 2 (fun h2 => ?_) (fun h2 => ?_)
    · rw [if_pos h2] at hp
      exact hp
    · rw [if_neg h2] at hp
      refine px_number (by omega) (pk_lt ck (L i % 64) (fun q => ?_) (fun q => ?_))
      · rw [decide_eq_false (by omega)] at hp
        exact hp
      · rw [decide_eq_true q] at hp
        exact hp
theorem px_lloop {post : Int32 → Prop} (hlc : lc ≤ 8) (hck : ck < 64) (hS : ∀ j, j < lc → aS j = nI (S j)) (hb : ∀ j, j < lc → S j < 256) (hL : ∀ j, j < lc → ps_fc (L j)) (hp : post (nI (ps_mk (ps_on L S ck lc) lc))) :
    ∀ d i, i + d = lc → wX_onlookersLocks_4 post (nI ml) (nI kw) (nI hw) (nI aw) (nI tc) (nI lc) (nI rc) xd xe (nI ck) (fun j => nI (T j)) (fun j => nI (L j)) aS (d + 1) (nI (ps_mk (ps_on L S ck lc) i)) (nI i) := by
  intro d
  induction d with
  | zero =>
    intro i hi
    cases (show i = lc by omega)
    exact br_t (nI_le (Nat.le_refl _) (by omega)) hp
  | succ d ih =>
    intro i hi
    have n := ih (i + 1) (by omega)
    refine br_f (nI_ge (by omega) (by omega)) ⟨vp_in_nI (by omega) (by omega), ?_⟩
    rw [nI_clamp (by omega)]
    refine px_onh hlc hck hS hb (hL i (by omega)) (ek_if (ps_i0 _) (fun h => ?_) (fun h => ?_))
    · rw [ps_mkF h] at n
      exact nm_r (nI_1 i) n
    · rw [ps_mkT (ps_nt h)] at n
      exact nm_r (px_set (by omega)) (nm_r (nI_1 i) n)
theorem px_onlook {post : Int32 → Prop} (hlc : lc ≤ 8) (hck : ck < 64) (hS : ∀ j, j < lc → aS j = nI (S j)) (hb : ∀ j, j < lc → S j < 256) (hL : ∀ j, j < lc → ps_fc (L j)) (hp : post (nI (ps_mk (ps_on L S ck lc) lc))) : wpX_onlookersLocks post (nI ml, nI kw, nI hw, nI aw, nI tc, nI lc, nI rc, xd, xe, nI ck, (fun j => nI (T j)), (fun j => nI (L j)), aS) :=
  ⟨lc + 1, px_lloop hlc hck hS hb hL hp lc 0 (Nat.zero_add _)⟩
theorem px_iloop {post : Int32 → Prop} (hlc : lc ≤ 8) (hS : ∀ j, j < lc → aS j = nI (S j)) (hb : ∀ j, j < lc → S j < 256) (hp : post (nI (ps_mk (ps_fl S) lc))) :
    ∀ d i, i + d = lc → wX_filledLocks_4 post (nI ml) (nI kw) (nI hw) (nI aw) (nI tc) (nI lc) (nI rc) xd xe (nI ck) (fun j => nI (T j)) (fun j => nI (L j)) aS (d + 1) (nI (ps_mk (ps_fl S) i)) (nI i) := by
  intro d
  induction d with
  | zero =>
    intro i hi
    cases (show i = lc by omega)
    exact br_t (nI_le (Nat.le_refl _) (by omega)) hp
  | succ d ih =>
    intro i hi
    have n := ih (i + 1) (by omega)
    have b := hb i (by omega)
    refine br_f (nI_ge (by omega) (by omega)) ⟨vp_in_nI (by omega) (by omega), ?_⟩
    rw [nI_clamp (by omega), hS i (by omega)]
    refine pk_eq (S i) 0 (fun h => ?_) (fun h => ?_)
    · rw [ps_mkF (p := ps_fl S) (decide_eq_false (not_not_intro h))] at n
      exact nm_r (nI_1 i) n
    · rw [ps_mkT (p := ps_fl S) (decide_eq_true h)] at n
      exact nm_r (px_set (by omega)) (nm_r (nI_1 i) n)
theorem px_filled {post : Int32 → Prop} (hlc : lc ≤ 8) (hS : ∀ j, j < lc → aS j = nI (S j)) (hb : ∀ j, j < lc → S j < 256) (hp : post (nI (ps_mk (ps_fl S) lc))) : wpX_filledLocks post (nI ml, nI kw, nI hw, nI aw, nI tc, nI lc, nI rc, xd, xe, nI ck, (fun j => nI (T j)), (fun j => nI (L j)), aS) :=
  ⟨lc + 1, px_iloop hlc hS hb hp lc 0 (Nat.zero_add _)⟩
theorem px_fits {post : Int32 → Prop} {i : Nat} (hi : i < lc) (hlc : lc ≤ 8) (hck : ck < 64) (hS : aS i = nI (S i)) (hb : S i < 256) (hl : ps_fc (L i)) (hp : post (ps_i (ps_ft L S ck i))) : wpX_lockFits post (nI ml, nI kw, nI hw, nI aw, nI tc, nI lc, nI rc, xd, xe, nI ck, (fun j => nI (T j)), (fun j => nI (L j)), aS) (nI i) := by
  obtain ⟨l1, l2, l3⟩ := hl
  refine ⟨vp_in_nI (by omega) (by omega), nm_r (e' := nI (L i)) (congrArg (fun j => nI (L j)) (nI_clamp (by omega))) ⟨vp_in_nI (by omega) (by omega), ?_⟩⟩
  rw [nI_clamp (by omega), hS]
  refine pk_eq (S i) (L i) (fun h => ?_) (fun h => ?_)
  · rw [ps_ft, decide_eq_true h, Bool.true_and] at hp
    refine px_kind (by omega) (pk_eq (L i / 64) 3 (fun h2 => ?_) (fun h2 => ?_))
    · rw [decide_eq_false (not_not_intro h2), Bool.false_or] at hp
      refine px_number (by omega) (pk_lt ck (L i % 64) (fun q => ?_) (fun q => ?_))
      · rw [decide_eq_false (by omega)] at hp
        exact hp
      · rw [decide_eq_true q] at hp
        exact hp
    · rw [decide_eq_true h2, Bool.true_or] at hp
      exact hp
  · rw [ps_ft, decide_eq_false h, Bool.false_and] at hp
    exact hp
def ps_wr (L S : Nat → Nat) (ck i : Nat) : Bool := ps_fl S i && !ps_ft L S ck i
theorem px_aloop {post : Int32 → Prop} {s : Nat} (hlc : lc ≤ 8) (hs : s < 256) (hbit : ∀ j, j < lc → s / 2 ^ j % 2 = (if ps_fl S j = true then 1 else 0)) (hck : ck < 64) (hS : ∀ j, j < lc → aS j = nI (S j)) (hb : ∀ j, j < lc → S j < 256) (hL : ∀ j, j < lc → ps_fc (L j)) (hp : post (ps_i (!ps_ex (ps_wr L S ck) lc))) :
    ∀ d i, i + d = lc → ps_ex (ps_wr L S ck) i = false → wX_allFit_2 post (nI s) (nI ml) (nI kw) (nI hw) (nI aw) (nI tc) (nI lc) (nI rc) xd xe (nI ck) (fun j => nI (T j)) (fun j => nI (L j)) aS (d + 1) (nI i) := by
  intro d
  induction d with
  | zero =>
    intro i hi hm
    cases (show i = lc by omega)
    rw [hm] at hp
    exact br_t (nI_le (Nat.le_refl _) (by omega)) hp
  | succ d ih =>
    intro i hi hm
    have bi := hbit i (by omega)
    refine br_f (nI_ge (by omega) (by omega)) (px_contains (by omega) (by omega) ?_)
    by_cases f : ps_fl S i = true
    · rw [if_pos f] at bi
      rw [decide_eq_true bi]
      refine br_f (by decide) (px_fits (by omega) hlc hck (hS i (by omega)) (hb i (by omega)) (hL i (by omega)) ?_)
      refine ek_if (ps_i0 _) (fun h => ?_) (fun h => ?_)
      · rw [ps_ex_le (ps_exT (p := ps_wr L S ck) (m := i) (by rw [ps_wr, f, h]; rfl)) (show i + 1 ≤ lc by omega)] at hp
        exact hp
      · refine nm_r (nI_1 i) (ih (i + 1) (by omega) ?_)
        rw [ps_exF (by rw [ps_wr, f, ps_nt h]; rfl)]
        exact hm
    · rw [if_neg f] at bi
      rw [decide_eq_false (by omega)]
      refine br_t (by decide) (nm_r (nI_1 i) (ih (i + 1) (by omega) ?_))
      rw [ps_exF (by rw [ps_wr, ps_nf f]; rfl)]
      exact hm
theorem px_allfit {post : Int32 → Prop} (hlc : lc ≤ 8) (hck : ck < 64) (hS : ∀ j, j < lc → aS j = nI (S j)) (hb : ∀ j, j < lc → S j < 256) (hL : ∀ j, j < lc → ps_fc (L j)) (hp : post (ps_i (!ps_ex (ps_wr L S ck) lc))) : wpX_allFit post (nI ml, nI kw, nI hw, nI aw, nI tc, nI lc, nI rc, xd, xe, nI ck, (fun j => nI (T j)), (fun j => nI (L j)), aS) (nI (ps_mk (ps_fl S) lc)) :=
  ⟨lc + 1, px_aloop hlc (Nat.lt_of_lt_of_le (ps_mk_lt _ _) (ps_p8 hlc)) (fun j hj => ps_mk_b lc hj) hck hS hb hL hp lc 0 (Nat.zero_add _) rfl⟩
def ps_sp (T L S : Nat → Nat) (tc lc ck : Nat) : Nat :=
  if ps_ex (ps_wr L S ck) lc = true then 2 else if ps_tr T tc (ps_mk (ps_fl S) lc) = true then (if ps_mn (ps_tr T tc) lc (ps_mk (ps_fl S) lc) = true then 1 else 4) else 3
theorem px_spend {post : Int32 → Prop} (hd : ¬ xd = 0) (hok : ps_ok T tc) (hlk : ps_lk T tc ≤ 8) (htc : tc ≤ 15) (hlc : lc ≤ 8) (hck : ck < 64) (hS : ∀ j, j < lc → aS j = nI (S j)) (hb : ∀ j, j < lc → S j < 256) (hL : ∀ j, j < lc → ps_fc (L j))
    (hp : post (nI (ps_sp T L S tc lc ck))) : wpX_spend post (nI ml, nI kw, nI hw, nI aw, nI tc, nI lc, nI rc, xd, xe, nI ck, (fun j => nI (T j)), (fun j => nI (L j)), aS) := by
  have h8 : ps_mk (ps_fl S) lc < 256 := Nat.lt_of_lt_of_le (ps_mk_lt _ _) (ps_p8 hlc)
  refine br_f hd (px_filled hlc hS hb (px_allfit hlc hck hS hb hL ?_))
  by_cases c1 : ps_ex (ps_wr L S ck) lc = true
  · rw [ps_sp, if_pos c1] at hp
    rw [c1]
    exact br_t (by decide) hp
  · rw [ps_sp, if_neg c1] at hp
    rw [ps_nf c1]
    refine br_f (by decide) (px_true hok hlk htc h8 ?_)
    by_cases c2 : ps_tr T tc (ps_mk (ps_fl S) lc) = true
    · rw [if_pos c2] at hp
      rw [c2]
      refine br_f (by decide) (px_min hok hlk htc hlc h8 ?_)
      by_cases c3 : ps_mn (ps_tr T tc) lc (ps_mk (ps_fl S) lc) = true
      · rw [if_pos c3] at hp
        rw [c3]
        exact br_f (by decide) hp
      · rw [if_neg c3] at hp
        rw [ps_nf c3]
        exact br_t (by decide) hp
    · rw [if_neg c2] at hp
      rw [ps_nf c2]
      exact br_t (by decide) hp
theorem px_eloop {post : Int32 → Prop} (hok : ps_ok T tc) (hlk : ps_lk T tc ≤ 8) (htc : tc ≤ 15) (hlc : lc ≤ 8) (hL : ∀ j, j < lc → ps_fc (L j)) :
    ∀ d t, t + d = 64 → post (ps_er (fun t => ps_tr T tc (ps_mk (ps_ow L xe t) lc)) d t) → wX_earliest_12 post (nI ml) (nI kw) (nI hw) (nI aw) (nI tc) (nI lc) (nI rc) xd xe (nI ck) (fun j => nI (T j)) (fun j => nI (L j)) aS (d + 1) (nI t) := by
  intro d
  induction d with
  | zero =>
    intro t ht hp
    exact br_t (nI_lt (a := 63) (by omega) (by omega)) hp
  | succ d ih =>
    intro t ht hp
    refine br_f (nI_nlt (b := t) (a := 63) (by omega) (by decide)) (px_owners hlc (by omega) hL (px_true hok hlk htc (Nat.lt_of_lt_of_le (ps_mk_lt _ _) (ps_p8 hlc)) ?_))
    by_cases c : ps_tr T tc (ps_mk (ps_ow L xe t) lc) = true
    · rw [ps_erT (P := fun t => ps_tr T tc (ps_mk (ps_ow L xe t) lc)) c] at hp
      rw [c]
      exact br_f (by decide) hp
    · rw [ps_erF (P := fun t => ps_tr T tc (ps_mk (ps_ow L xe t) lc)) (ps_nf c)] at hp
      rw [ps_nf c]
      exact br_t (by decide) (nm_r (nI_1 t) (ih (t + 1) (by omega) hp))
end
end
section
def ps_sk (R d : Nat) (K : Nat → Int32) : Prop := ∀ j, j < d → K j = nI (R / 2 ^ (d - 1 - j) % 2)
theorem ps_sk_push {R d b : Nat} {K : Nat → Int32} (h : ps_sk R d K) (hb : b < 2) : ps_sk (2 * R + b) (d + 1) (upd K d (nI b)) := by
  intro j hj
  by_cases e : j = d
  · rw [e, pk_us, show d + 1 - 1 - d = 0 by omega, Nat.pow_zero, Nat.div_one]
    refine congrArg nI ?_
    omega
  · rw [pk_un e, h j (by omega), show d + 1 - 1 - j = (d - 1 - j) + 1 by omega, ps_bS _ _ _ hb]
theorem ps_sk_drop {R d n : Nat} {K : Nat → Int32} (h : ps_sk R d K) (hn : n ≤ d) : ps_sk (R / 2 ^ n) (d - n) K := by
  intro j hj
  rw [h j (by omega), ps_bD, show n + (d - n - 1 - j) = d - 1 - j by omega]
theorem ps_vn {b : Nat} (h : b < 2) : vp_nar .boolean (nI b) = nI b := by
  have e : b = 0 ∨ b = 1 := by omega
  rcases e with e | e
  · subst e
    rfl
  · subst e
    rfl
section
variable {ml tc lc rc ck : Nat} {yd : Int32} {T L : Nat → Nat} {bS bW bH bK : Nat → Int32}
theorem py_push {post : Int32 → SY → Prop} {J : Int32 → Int32 → Int32 → (Nat → Int32) → (Nat → Int32) → (Nat → Int32) → (Nat → Int32) → (Nat → Int32) → (Nat → Int32) → Prop} {x1 x3 : Int32} {top i b : Nat} (ht : top < 16) (hi : i < 2 ^ 30) (hb : b < 2)
    (h : J (nI (top + 1)) x3 (nI (i + 1)) (fun j => nI (T j)) (fun j => nI (L j)) bS bW bH (upd bK top (nI b))) : wY_isTrue_141 post J x1 (nI top) x3 (nI i) (nI b) (nI tc) (nI lc) (nI rc) (nI ck) (nI ml) yd (fun j => nI (T j)) (fun j => nI (L j)) bS bW bH bK := by
  refine ⟨vp_in_nI ht (by omega), nm_r (e' := upd bK top (nI b)) ?_ (nm_r (nI_1 top) (nm_r (nI_1 i) h))⟩
  rw [ps_vn hb, nI_clamp (by omega)]
theorem py_jloop {post : Int32 → SY → Prop} {J : Int32 → Int32 → Int32 → (Nat → Int32) → (Nat → Int32) → (Nat → Int32) → (Nat → Int32) → (Nat → Int32) → (Nat → Int32) → Prop} {x1 x3 : Int32} {R k n d i : Nat} (hd : d ≤ 8) (hn : n ≤ d) (hn1 : 1 ≤ n) (hi : i < 2 ^ 30) (hk : k ≤ 8) (sk : ps_sk R d bK)
    (h : J (nI (d - n + 1)) x3 (nI (i + 1)) (fun j => nI (T j)) (fun j => nI (L j)) bS bW bH (upd bK (d - n) (nI (if k ≤ ps_cnt R n then 1 else 0)))) :
    ∀ r m, m + r = n → wY_isTrue_97 post J x1 x3 (nI i) (nI k) (nI tc) (nI lc) (nI rc) (nI ck) (nI ml) yd (fun j => nI (T j)) (fun j => nI (L j)) bS bW bH bK (r + 1) (nI (d - m)) (nI (ps_cnt R m)) (nI r) := by
  intro r
  induction r with
  | zero =>
    intro m hm
    cases (show m = n by omega)
    have hc := ps_cnt_le R n
    refine br_t (nI_le (a := 0) (b := 0) (by omega) (by omega)) (pk_lt (ps_cnt R n) k (fun z => ?_) (fun z => ?_))
    · rw [if_neg (by omega)] at h
      exact py_push (b := 0) (by omega) hi (by decide) h
    · rw [if_pos z] at h
      exact py_push (b := 1) (by omega) hi (by decide) h
  | succ r ih =>
    intro m hm
    have hc := ps_cnt_le R m
    have g := ih (m + 1) (by omega)
    refine br_f (nI_nle (by omega) (by omega)) (br_f (nI_nle (by omega) (by omega)) (nm_r (e' := nI (d - (m + 1))) ?_ ⟨vp_in_nI (by omega) (by omega), ?_⟩))
    · rw [show d - m = (d - (m + 1)) + 1 by omega]
      exact pk_m1 _
    · have e : ps_cnt R (m + 1) = ps_cnt R m + R / 2 ^ m % 2 := rfl
      rw [nI_clamp (by omega), sk (d - (m + 1)) (by omega), show d - 1 - (d - (m + 1)) = m by omega]
      have b := ps_b2 (R / 2 ^ m)
      refine pk_eq (R / 2 ^ m % 2) 0 (fun z => ?_) (fun z => ?_) rfl rfl (by omega)
      · rw [e, z] at g
        exact nm_r (pk_m1 r) g
      · rw [e, show R / 2 ^ m % 2 = 1 by omega] at g
        exact nm_r (nI_1 _) (nm_r (pk_m1 r) g)
theorem py_tok {post : Int32 → SY → Prop} {J : Int32 → Int32 → Int32 → (Nat → Int32) → (Nat → Int32) → (Nat → Int32) → (Nat → Int32) → (Nat → Int32) → (Nat → Int32) → Prop} {x1 : Int32} {s i : Nat} (hok : ps_ok T tc) (hlk : ps_lk T tc ≤ 8) (hi : i < tc) (htc : tc ≤ 15) (sk : ps_sk (ps_rv T s i) (ps_dp T i) bK)
    (h : ∀ K : Nat → Int32, ps_sk (ps_rv T s (i + 1)) (ps_dp T (i + 1)) K → J (nI (ps_dp T (i + 1))) (nI (ps_lk T (i + 1))) (nI (i + 1)) (fun j => nI (T j)) (fun j => nI (L j)) bS bW bH K) :
    wY_isTrue_37 post J x1 (nI (ps_dp T i)) (nI (ps_lk T i)) (nI i) (nI (s / 2 ^ ps_lk T i % 2)) (nI tc) (nI lc) (nI rc) (nI ck) (nI ml) yd (fun j => nI (T j)) (fun j => nI (L j)) bS bW bH bK := by
  have q2 := Nat.le_trans (ps_lk_le (T := T) (show i ≤ tc by omega)) hlk
  have q := Nat.le_trans (ps_dp_lk T i) q2
  have t := hok i hi
  refine ⟨vp_in_nI (by omega) (by omega), ?_⟩
  rw [nI_clamp (by omega)]
  refine pk_le 256 (T i) (fun c => ?_) (fun c => ?_)
  · have n := t.2 c
    have c2 : ¬ T i < 256 := by omega
    have hh := h _ (by rw [ps_rvJ c2, ps_dpJ c2, show ps_dp T i - (T i - 256) % 8 = ps_dp T i - ((T i - 256) % 8 + 1) + 1 by omega]; exact ps_sk_push (ps_sk_drop sk n) (by split <;> decide))
    rw [ps_dpJ c2, ps_lkJ c2, show ps_dp T i - (T i - 256) % 8 = ps_dp T i - ((T i - 256) % 8 + 1) + 1 by omega] at hh
    refine ⟨vp_in_nI (by omega) (by omega), by decide, nm_r (e' := nI ((T i - 256) / 8 + 1)) ?_ ⟨vp_in_nI (by omega) (by omega), by decide, nm_r (e' := nI ((T i - 256) % 8 + 1)) ?_ ⟨_, py_jloop q n (by omega) (by omega) (by omega) sk hh _ 0 (Nat.zero_add _)⟩⟩⟩
    · rw [px_sub c, px_div8 (by omega), nI_1]
    · rw [px_sub c, px_rem8 (by omega), nI_1]
  · have hh := h _ (by rw [ps_rvL c, ps_dpL c]; exact ps_sk_push sk (ps_b2 _))
    rw [ps_dpL c, ps_lkL c] at hh
    exact nm_r (nI_1 _) (py_push (by omega) (by omega) (ps_b2 _) hh)
theorem py_tloop {post : Int32 → SY → Prop} {s : Nat} (hok : ps_ok T tc) (hlk : ps_lk T tc ≤ 8) (hdp : ps_dp T tc = 1) (htc : tc ≤ 15) (hs : s < 256) (hp : ∀ K : Nat → Int32, post (ps_i (ps_tr T tc s)) (nI tc, nI lc, nI rc, nI ck, nI ml, yd, (fun j => nI (T j)), (fun j => nI (L j)), bS, bW, bH, K)) :
    ∀ d i (K : Nat → Int32), i + d = tc → ps_sk (ps_rv T s i) (ps_dp T i) K → wY_isTrue_7 post (nI s) (nI tc) (nI lc) (nI rc) (nI ck) (nI ml) yd (d + 1) (nI (ps_dp T i)) (nI (ps_lk T i)) (nI i) (fun j => nI (T j)) (fun j => nI (L j)) bS bW bH K := by
  intro d
  induction d with
  | zero =>
    intro i K hi sk
    cases (show i = tc by omega)
    have r := ps_rv_lt (s := s) hok tc (Nat.le_refl _)
    have k0 := sk 0 (by omega)
    rw [hdp] at r k0 ⊢
    have h := hp K
    refine br_f (nI_ge (b := 16) (by omega) (by decide)) (br_t (nI_le (Nat.le_refl _) (by omega)) (br_t rfl ?_))
    rw [k0, show 1 - 1 - 0 = 0 from rfl, Nat.pow_zero, Nat.div_one]
    refine pk_eq (ps_rv T s tc % 2) 0 (fun z => ?_) (fun z => ?_) rfl rfl (by omega)
    · rw [ps_tr, decide_eq_false (by omega)] at h
      exact h
    · rw [ps_tr, decide_eq_true (by omega)] at h
      exact h
  | succ d ih =>
    intro i K hi sk
    have q2 := Nat.le_trans (ps_lk_le (T := T) (show i ≤ tc by omega)) hlk
    refine br_f (nI_ge (b := 16) (by omega) (by decide)) (br_f (nI_ge (by omega) (by omega)) ?_)
    rw [ps_bit (by omega) (by omega)]
    have b := ps_b2 (s / 2 ^ ps_lk T i)
    have g := py_tok (ml := ml) (lc := lc) (rc := rc) (ck := ck) (yd := yd) (L := L) (bS := bS) (bW := bW) (bH := bH) (post := post) (J := wY_isTrue_7 post (nI s) (nI tc) (nI lc) (nI rc) (nI ck) (nI ml) yd (d + 1)) (x1 := nI s) hok hlk (show i < tc by omega) htc sk (fun K' sk' => ih (i + 1) K' (by omega) sk')
    refine pk_eq (s / 2 ^ ps_lk T i % 2) 1 (fun z => ?_) (fun z => ?_) rfl rfl (by omega)
    · rw [z] at g
      exact g
    · rw [show s / 2 ^ ps_lk T i % 2 = 0 by omega] at g
      exact g
theorem py_true {post : Int32 → SY → Prop} {s : Nat} (hok : ps_ok T tc) (hlk : ps_lk T tc ≤ 8) (hdp : ps_dp T tc = 1) (htc : tc ≤ 15) (hs : s < 256) (hp : ∀ K : Nat → Int32, post (ps_i (ps_tr T tc s)) (nI tc, nI lc, nI rc, nI ck, nI ml, yd, (fun j => nI (T j)), (fun j => nI (L j)), bS, bW, bH, K)) : wpY_isTrue post (nI tc, nI lc, nI rc, nI ck, nI ml, yd, (fun j => nI (T j)), (fun j => nI (L j)), bS, bW, bH, bK) (nI s) :=
  ⟨tc + 1, py_tloop hok hlk hdp htc hs hp tc 0 bK (Nat.zero_add _) (fun j h => absurd h (Nat.not_lt_zero j))⟩
end
end
section
section
variable {ml tc lc rc ck : Nat} {yd : Int32} {T L S : Nat → Nat} {bS bW bH bK : Nat → Int32}
theorem py_mloop {post : Int32 → SY → Prop} {s : Nat} (hok : ps_ok T tc) (hlk : ps_lk T tc ≤ 8) (hdp : ps_dp T tc = 1) (htc : tc ≤ 15) (hs : s < 256) (hp : ∀ K : Nat → Int32, post (ps_i (ps_mn (ps_tr T tc) 8 s)) (nI tc, nI lc, nI rc, nI ck, nI ml, yd, (fun j => nI (T j)), (fun j => nI (L j)), bS, bW, bH, K)) :
    ∀ d i (K : Nat → Int32), i + d = 8 → wY_isMinimal_8 post (nI s) (d + 1) (ps_i (ps_mn (ps_tr T tc) i s)) (nI i) (nI tc) (nI lc) (nI rc) (nI ck) (nI ml) yd (fun j => nI (T j)) (fun j => nI (L j)) bS bW bH K := by
  intro d
  induction d with
  | zero =>
    intro i K hi
    cases (show i = 8 by omega)
    exact br_t (nI_le (a := 8) (b := 8) (Nat.le_refl _) (by decide)) ⟨ps_nb _, hp K⟩
  | succ d ih =>
    intro i K hi
    have n := fun K => ih (i + 1) K (by omega)
    have st : ps_mn (ps_tr T tc) (i + 1) s = (ps_mn (ps_tr T tc) i s && !(decide (s / 2 ^ i % 2 = 1) && ps_tr T tc (s - 2 ^ i))) := by
      show (ps_tr T tc s && (ps_mnA (ps_tr T tc) s i && _)) = _
      rw [← Bool.and_assoc]
      rfl
    refine br_f (nI_ge (b := 8) (by omega) (by decide)) ?_
    rw [ps_bit (by omega) (by omega)]
    have b := ps_b2 (s / 2 ^ i)
    refine pk_eq (s / 2 ^ i % 2) 1 (fun z => ?_) (fun z => ?_) rfl rfl (by omega)
    · rw [ps_clr s hs i (by omega) z]
      refine py_true hok hlk hdp htc (Nat.lt_of_le_of_lt (Nat.sub_le _ _) hs) (fun K' => ?_)
      have n' := n K'
      rw [st, decide_eq_true z] at n'
      by_cases c : ps_tr T tc (s - 2 ^ i) = true
      · rw [c] at n' ⊢
        rw [show (ps_mn (ps_tr T tc) i s && !(true && true)) = false by simp] at n'
        exact br_f (by decide) (nm_r (nI_1 i) n')
      · rw [ps_nf c] at n' ⊢
        rw [show (ps_mn (ps_tr T tc) i s && !(true && false)) = ps_mn (ps_tr T tc) i s by simp] at n'
        exact br_t (by decide) (nm_r (nI_1 i) n')
    · have n' := n K
      rw [st, decide_eq_false z, show (ps_mn (ps_tr T tc) i s && !(false && ps_tr T tc (s - 2 ^ i))) = ps_mn (ps_tr T tc) i s by simp] at n'
      exact nm_r (nI_1 i) n'
theorem py_min {post : Int32 → SY → Prop} {s : Nat} (hok : ps_ok T tc) (hlk : ps_lk T tc ≤ 8) (hdp : ps_dp T tc = 1) (htc : tc ≤ 15) (hs : s < 256) (hp : ∀ K : Nat → Int32, post (ps_i (ps_mn (ps_tr T tc) 8 s)) (nI tc, nI lc, nI rc, nI ck, nI ml, yd, (fun j => nI (T j)), (fun j => nI (L j)), bS, bW, bH, K)) : wpY_isMinimal post (nI tc, nI lc, nI rc, nI ck, nI ml, yd, (fun j => nI (T j)), (fun j => nI (L j)), bS, bW, bH, bK) (nI s) := by
  unfold wpY_isMinimal
  refine py_true hok hlk hdp htc hs (fun K => ⟨9, ?_⟩)
  have z := py_mloop hok hlk hdp htc hs hp 8 0 K rfl
  rw [show ps_mn (ps_tr T tc) 0 s = ps_tr T tc s by simp [ps_mn, ps_mnA]] at z
  exact z
theorem py_wloop {post : Int32 → Prop} {s : Nat} {w : Nat → Nat} (hlc : lc ≤ 8) (hs : s < 2 ^ lc) (hL : ∀ j, j < lc → ps_fc (L j)) (hW : ∀ k, 1 ≤ k → k < 4 → bW k = nI (w k)) (hp : post (nI (ps_wt w L s 8))) :
    ∀ d i, i + d = 8 → wY_weight_4 post (nI s) (nI tc) (nI lc) (nI rc) (nI ck) (nI ml) yd (fun j => nI (T j)) (fun j => nI (L j)) bS bW bH bK (d + 1) (nI (ps_wt w L s i)) (nI i) := by
  have h8 := ps_p8 hlc
  intro d
  induction d with
  | zero =>
    intro i hi
    cases (show i = 8 by omega)
    exact br_t (nI_le (a := 8) (b := 8) (Nat.le_refl _) (by decide)) hp
  | succ d ih =>
    intro i hi
    have n := ih (i + 1) (by omega)
    refine br_f (nI_ge (b := 8) (by omega) (by decide)) ?_
    rw [ps_bit (by omega) (by omega)]
    have b := ps_b2 (s / 2 ^ i)
    refine pk_eq (s / 2 ^ i % 2) 1 (fun z => ?_) (fun z => ?_) rfl rfl (by omega)
    · have il : i < lc := by
        refine Nat.lt_of_not_le fun q => ?_
        rw [ps_hi hs q] at z
        omega
      obtain ⟨l1, l2, l3⟩ := hL i il
      refine ⟨vp_in_nI (by omega) (by omega), by decide, ?_⟩
      rw [nI_clamp (show i < 2 ^ 31 by omega), px_div64 (by omega), nI_clamp (by omega), hW _ (by omega) (by omega)]
      refine ⟨vp_in_nI (by omega) (by omega), nm_r (e' := nI (ps_wt w L s (i + 1))) ?_ (nm_r (nI_1 i) n)⟩
      rw [nI_add]
      refine congrArg nI ?_
      show _ = ps_wt w L s i + (if s / 2 ^ i % 2 = 1 then w (L i / 64) else 0)
      rw [if_pos z]
    · have e : ps_wt w L s (i + 1) = ps_wt w L s i := by
        show ps_wt w L s i + (if s / 2 ^ i % 2 = 1 then w (L i / 64) else 0) = _
        rw [if_neg z]
        rfl
      rw [e] at n
      exact nm_r (nI_1 i) n
theorem py_weight {post : Int32 → Prop} {s : Nat} {w : Nat → Nat} (hlc : lc ≤ 8) (hs : s < 2 ^ lc) (hL : ∀ j, j < lc → ps_fc (L j)) (hW : ∀ k, 1 ≤ k → k < 4 → bW k = nI (w k)) (hp : post (nI (ps_wt w L s lc))) : wpY_weight post (nI tc, nI lc, nI rc, nI ck, nI ml, yd, (fun j => nI (T j)), (fun j => nI (L j)), bS, bW, bH, bK) (nI s) := by
  rw [← ps_wt_8 hs hlc] at hp
  exact ⟨9, py_wloop hlc hs hL hW hp 8 0 rfl⟩
theorem py_hstep {post : Int32 → Prop} {J : Int32 → Int32 → Prop} {p : Nat → Bool} {i : Nat} {x z : Int32} (hi : i < 31) (hz : z = ps_i (p i)) (hJ : J (nI (ps_mk p (i + 1))) (nI (i + 1))) :
    wY_heldSet_63 post J x (nI (ps_mk p i)) (nI i) z (nI tc) (nI lc) (nI rc) (nI ck) (nI ml) yd (fun j => nI (T j)) (fun j => nI (L j)) bS bW bH bK := by
  subst hz
  refine ek_if (ps_i0 (p i)) (fun h => ?_) (fun h => ?_)
  · rw [ps_mkF h] at hJ
    exact nm_r (nI_1 i) hJ
  · rw [ps_mkT (ps_nt h)] at hJ
    exact nm_r (px_set hi) (nm_r (nI_1 i) hJ)
theorem py_hloop {post : Int32 → Prop} {t : Nat} {xe : Int32} (hlc : lc ≤ 8) (ht : t < 64) (hL : ∀ j, j < lc → ps_fc (L j)) (hH : ∀ c, 64 ≤ c → c < 192 → c % 64 < 8 → bH c = ps_i (ps_hd xe c)) (hp : post (nI (ps_mk (ps_ow L xe t) lc))) :
    ∀ d i, i + d = lc → wY_heldSet_4 post (nI t) (nI tc) (nI lc) (nI rc) (nI ck) (nI ml) yd (fun j => nI (T j)) (fun j => nI (L j)) bS bW bH bK (d + 1) (nI (ps_mk (ps_ow L xe t) i)) (nI i) := by
  intro d
  induction d with
  | zero =>
    intro i hi
    cases (show i = lc by omega)
    exact br_c (fun _ => hp) (fun _ => br_t (nI_le (Nat.le_refl _) (by omega)) hp)
  | succ d ih =>
    intro i hi
    have n := ih (i + 1) (by omega)
    obtain ⟨l1, l2, l3⟩ := hL i (by omega)
    refine br_f (nI_ge (b := 8) (by omega) (by decide)) (br_f (nI_ge (by omega) (by omega)) ⟨vp_in_nI (by omega) (by omega), by decide, ?_⟩)
    rw [nI_clamp (show i < 2 ^ 31 by omega), px_rem64 (by omega), px_div64 (by omega)]
    refine pk_eq (L i / 64) 3 (fun h => ⟨vp_in_nI (by omega) (by omega), by decide, pk_lt t (L i % 64) (fun q => ?_) (fun q => ?_)⟩) (fun h => ⟨vp_in_nI (by omega) (by omega), vp_in_nI (by omega) (by omega), ?_⟩)
    · refine py_hstep (p := ps_ow L xe t) (by omega) ?_ n
      rw [ps_ow, if_pos h, decide_eq_false (by omega)]
      rfl
    · refine py_hstep (p := ps_ow L xe t) (by omega) ?_ n
      rw [ps_ow, if_pos h, decide_eq_true q]
      rfl
    · refine py_hstep (p := ps_ow L xe t) (by omega) ?_ n
      rw [ps_ow, if_neg h, nI_clamp (by omega)]
      exact hH _ l1 (by omega) (l3 (by omega))
theorem py_owners {post : Int32 → Prop} {t : Nat} {xe : Int32} (hlc : lc ≤ 8) (ht : t < 64) (hL : ∀ j, j < lc → ps_fc (L j)) (hH : ∀ c, 64 ≤ c → c < 192 → c % 64 < 8 → bH c = ps_i (ps_hd xe c)) (hp : post (nI (ps_mk (ps_ow L xe t) lc))) : wpY_heldSet post (nI tc, nI lc, nI rc, nI ck, nI ml, yd, (fun j => nI (T j)), (fun j => nI (L j)), bS, bW, bH, bK) (nI t) :=
  ⟨lc + 1, py_hloop hlc ht hL hH hp lc 0 (Nat.zero_add _)⟩
theorem py_l0 {post : Int32 → Prop} {J : Int32 → Int32 → Prop} {p : Nat → Bool} {i : Nat} {x3 : Int32} (hi : i < 31) (hJ : J (nI (ps_mk p (i + 1))) (nI (i + 1))) (n : Nat) :
    wY_onlookerSet_64 post J (nI (ps_mk p i)) (nI i) x3 (nI tc) (nI lc) (nI rc) (nI ck) (nI ml) yd (fun j => nI (T j)) (fun j => nI (L j)) bS bW bH bK (n + 1) (ps_i (p i)) (nI 8) := by
  refine br_t (nI_le (Nat.le_refl _) (by decide)) (ek_if (ps_i0 (p i)) (fun h => ?_) (fun h => ?_))
  · rw [ps_mkF h] at hJ
    exact nm_r (nI_1 i) hJ
  · rw [ps_mkT (ps_nt h)] at hJ
    exact nm_r (px_set hi) (nm_r (nI_1 i) hJ)
theorem py_l1 {post : Int32 → Prop} {J : Int32 → Int32 → Prop} {p : Nat → Bool} {i : Nat} {x3 : Int32} (hi : i < 31) (h3 : ¬ x3 = 1) (hJ : J (nI (ps_mk p (i + 1))) (nI (i + 1))) :
    ∀ d j, j + d = 8 → wY_onlookerSet_64 post J (nI (ps_mk p i)) (nI i) x3 (nI tc) (nI lc) (nI rc) (nI ck) (nI ml) yd (fun j => nI (T j)) (fun j => nI (L j)) bS bW bH bK (d + 1) (ps_i (p i)) (nI j) := by
  intro d
  induction d with
  | zero =>
    intro j hj
    cases (show j = 8 by omega)
    exact py_l0 hi hJ 0
  | succ d ih =>
    intro j hj
    exact br_f (nI_ge (b := 8) (by omega) (by decide)) (br_f h3 (nm_r (nI_1 j) (ih (j + 1) (by omega))))
theorem py_l2 {post : Int32 → Prop} {J : Int32 → Int32 → Prop} {p : Nat → Bool} {i : Nat} (hi : i < 8) (hB : ∀ j, j < 8 → bS j = nI (S j)) (hb : ∀ j, j < 8 → S j < 256) (hl : L i < 256) (hpi : p i = ps_ex (ps_in S (L i)) 8) (hJ : J (nI (ps_mk p (i + 1))) (nI (i + 1))) :
    ∀ d j, j + d = 8 → wY_onlookerSet_64 post J (nI (ps_mk p i)) (nI i) (nI 1) (nI tc) (nI lc) (nI rc) (nI ck) (nI ml) yd (fun j => nI (T j)) (fun j => nI (L j)) bS bW bH bK (d + 1) (ps_i (ps_ex (ps_in S (L i)) j)) (nI j) := by
  intro d
  induction d with
  | zero =>
    intro j hj
    cases (show j = 8 by omega)
    rw [← hpi]
    exact py_l0 (by omega) hJ 0
  | succ d ih =>
    intro j hj
    have n := ih (j + 1) (by omega)
    have b := hb j (by omega)
    refine br_f (nI_ge (b := 8) (by omega) (by decide)) (br_t rfl ⟨vp_in_nI (by omega) (by omega), vp_in_nI (by omega) (by omega), ?_⟩)
    rw [nI_clamp (show j < 2 ^ 31 by omega), nI_clamp (show i < 2 ^ 31 by omega), hB j (by omega)]
    refine pk_eq (S j) (L i) (fun h => ?_) (fun h => ?_)
    · rw [ps_exT (p := ps_in S (L i)) (decide_eq_true h)] at n
      exact nm_r (nI_1 j) n
    · rw [ps_exF (p := ps_in S (L i)) (decide_eq_false h)] at n
      exact nm_r (nI_1 j) n
theorem ps_in_8 {c : Nat} (hlc : lc ≤ 8) (hz : ∀ j, lc ≤ j → j < 8 → S j = 0) (hc : 64 ≤ c) : ps_ex (ps_in S c) 8 = ps_ex (ps_in S c) lc :=
  ps_ex_8 hlc (fun i a b => decide_eq_false (by rw [hz i a b]; omega))
theorem py_lloop {post : Int32 → Prop} (hlc : lc ≤ 8) (hck : ck < 64) (hB : ∀ j, j < 8 → bS j = nI (S j)) (hb : ∀ j, j < 8 → S j < 256) (hz : ∀ j, lc ≤ j → j < 8 → S j = 0) (hL : ∀ j, j < lc → ps_fc (L j)) (hp : post (nI (ps_mk (ps_on L S ck lc) lc))) :
    ∀ d i, i + d = lc → wY_onlookerSet_4 post (nI tc) (nI lc) (nI rc) (nI ck) (nI ml) yd (fun j => nI (T j)) (fun j => nI (L j)) bS bW bH bK (d + 1) (nI (ps_mk (ps_on L S ck lc) i)) (nI i) := by
  intro d
  induction d with
  | zero =>
    intro i hi
    cases (show i = lc by omega)
    exact br_c (fun _ => hp) (fun _ => br_t (nI_le (Nat.le_refl _) (by omega)) hp)
  | succ d ih =>
    intro i hi
    have n := ih (i + 1) (by omega)
    obtain ⟨l1, l2, l3⟩ := hL i (by omega)
    refine br_f (nI_ge (b := 8) (by omega) (by decide)) (br_f (nI_ge (by omega) (by omega)) ⟨vp_in_nI (by omega) (by omega), by decide, nm_r (e' := nI (L i / 64)) ?_ ?_⟩)
    · rw [nI_clamp (show i < 2 ^ 31 by omega), px_div64 (by omega)]
    rw [nI_clamp (show i < 2 ^ 31 by omega), px_rem64 (by omega)]
    refine pk_eq (L i / 64) 2 (fun h => ?_) (fun h => pk_eq (L i / 64) 3 (fun h2 => ⟨vp_in_nI (by omega) (by omega), by decide, pk_lt ck (L i % 64) (fun q => ?_) (fun q => ?_)⟩) (fun h2 => ?_))
    · have e : ps_on L S ck lc i = true := by rw [ps_on, if_neg (by omega), if_pos h]
      have g := fun h3 => py_l1 (ml := ml) (tc := tc) (lc := lc) (rc := rc) (ck := ck) (yd := yd) (T := T) (L := L) (bS := bS) (bW := bW) (bH := bH) (bK := bK) (post := post) (p := ps_on L S ck lc) (i := i) (x3 := nI (L i / 64)) (by omega) h3 n 8 0 rfl
      rw [e] at g
      exact ⟨9, g (by rw [h]; decide)⟩
    · have e : ps_on L S ck lc i = false := by rw [ps_on, if_neg (by omega), if_neg h, decide_eq_false (by omega)]
      have g := fun h3 => py_l1 (ml := ml) (tc := tc) (lc := lc) (rc := rc) (ck := ck) (yd := yd) (T := T) (L := L) (bS := bS) (bW := bW) (bH := bH) (bK := bK) (post := post) (p := ps_on L S ck lc) (i := i) (x3 := nI (L i / 64)) (by omega) h3 n 8 0 rfl
      rw [e] at g
      exact ⟨9, g (by rw [h2]; decide)⟩
    · have e : ps_on L S ck lc i = true := by rw [ps_on, if_neg (by omega), if_neg h, decide_eq_true q]
      have g := fun h3 => py_l1 (ml := ml) (tc := tc) (lc := lc) (rc := rc) (ck := ck) (yd := yd) (T := T) (L := L) (bS := bS) (bW := bW) (bH := bH) (bK := bK) (post := post) (p := ps_on L S ck lc) (i := i) (x3 := nI (L i / 64)) (by omega) h3 n 8 0 rfl
      rw [e] at g
      exact ⟨9, g (by rw [h2]; decide)⟩
    · have k1 : L i / 64 = 1 := by omega
      have e : ps_on L S ck lc i = ps_ex (ps_in S (L i)) 8 := by rw [ps_on, if_pos k1, ps_in_8 hlc hz l1]
      rw [k1]
      exact ⟨9, py_l2 (by omega) hB hb l2 e n 8 0 rfl⟩
theorem py_onlook {post : Int32 → Prop} (hlc : lc ≤ 8) (hck : ck < 64) (hB : ∀ j, j < 8 → bS j = nI (S j)) (hb : ∀ j, j < 8 → S j < 256) (hz : ∀ j, lc ≤ j → j < 8 → S j = 0) (hL : ∀ j, j < lc → ps_fc (L j)) (hp : post (nI (ps_mk (ps_on L S ck lc) lc))) : wpY_onlookerSet post (nI tc, nI lc, nI rc, nI ck, nI ml, yd, (fun j => nI (T j)), (fun j => nI (L j)), bS, bW, bH, bK) :=
  ⟨lc + 1, py_lloop hlc hck hB hb hz hL hp lc 0 (Nat.zero_add _)⟩
theorem py_iloop {post : Int32 → Prop} (hB : ∀ j, j < 8 → bS j = nI (S j)) (hb : ∀ j, j < 8 → S j < 256) (hp : post (nI (ps_mk (ps_fl S) 8))) :
    ∀ d i, i + d = 8 → wY_filledSet_4 post (nI tc) (nI lc) (nI rc) (nI ck) (nI ml) yd (fun j => nI (T j)) (fun j => nI (L j)) bS bW bH bK (d + 1) (nI (ps_mk (ps_fl S) i)) (nI i) := by
  intro d
  induction d with
  | zero =>
    intro i hi
    cases (show i = 8 by omega)
    exact br_t (nI_le (a := 8) (b := 8) (Nat.le_refl _) (by decide)) hp
  | succ d ih =>
    intro i hi
    have n := ih (i + 1) (by omega)
    have b := hb i (by omega)
    refine br_f (nI_ge (b := 8) (by omega) (by decide)) ⟨vp_in_nI (by omega) (by omega), ?_⟩
    rw [nI_clamp (by omega), hB i (by omega)]
    refine pk_eq (S i) 0 (fun h => ?_) (fun h => ?_)
    · rw [ps_mkF (p := ps_fl S) (decide_eq_false (not_not_intro h))] at n
      exact nm_r (nI_1 i) n
    · rw [ps_mkT (p := ps_fl S) (decide_eq_true h)] at n
      exact nm_r (px_set (by omega)) (nm_r (nI_1 i) n)
theorem py_filled {post : Int32 → Prop} (hlc : lc ≤ 8) (hB : ∀ j, j < 8 → bS j = nI (S j)) (hb : ∀ j, j < 8 → S j < 256) (hz : ∀ j, lc ≤ j → j < 8 → S j = 0) (hp : post (nI (ps_mk (ps_fl S) lc))) : wpY_filledSet post (nI tc, nI lc, nI rc, nI ck, nI ml, yd, (fun j => nI (T j)), (fun j => nI (L j)), bS, bW, bH, bK) := by
  rw [← ps_mk_8 (p := ps_fl S) hlc (fun i a b => decide_eq_false (not_not_intro (hz i a b)))] at hp
  exact ⟨9, py_iloop hB hb hp 8 0 rfl⟩
theorem py_fits {post : Int32 → Prop} {i : Nat} (hi : i < lc) (hlc : lc ≤ 8) (hck : ck < 64) (hB : bS i = nI (S i)) (hb : S i < 256) (hl : ps_fc (L i)) (hp : post (ps_i (ps_ft L S ck i))) : wpY_fits post (nI tc, nI lc, nI rc, nI ck, nI ml, yd, (fun j => nI (T j)), (fun j => nI (L j)), bS, bW, bH, bK) (nI i) := by
  obtain ⟨l1, l2, l3⟩ := hl
  refine ⟨vp_in_nI (by omega) (by omega), vp_in_nI (by omega) (by omega), ?_⟩
  rw [nI_clamp (by omega), hB, px_rem64 (by omega), px_div64 (by omega)]
  refine pk_eq (S i) (L i) (fun h => ⟨vp_in_nI (by omega) (by omega), by decide, ?_⟩) (fun h => ?_)
  · rw [ps_ft, decide_eq_true h, Bool.true_and] at hp
    refine pk_eq (L i / 64) 3 (fun h2 => ⟨vp_in_nI (by omega) (by omega), by decide, ?_⟩) (fun h2 => ?_)
    · rw [decide_eq_false (not_not_intro h2), Bool.false_or] at hp
      refine pk_lt ck (L i % 64) (fun q => ?_) (fun q => ?_)
      · rw [decide_eq_false (by omega)] at hp
        exact hp
      · rw [decide_eq_true q] at hp
        exact hp
    · rw [decide_eq_true h2, Bool.true_or] at hp
      exact hp
  · rw [ps_ft, decide_eq_false h, Bool.false_and] at hp
    exact hp
end
end
section
def ps_bx (m : Nat) : Int32 := if m = 0 then -1 else nI m
section
variable {ml tc lc rc ck : Nat} {yd : Int32} {T L S : Nat → Nat} {bS bW bH bK : Nat → Int32}
theorem py_rfill {post : Int32 → SY → Prop} {s : Nat} {w : Nat → Nat} (hlc : lc ≤ 8) (hs : s < 2 ^ lc) (hL : ∀ j, j < lc → ps_fc (L j)) (hW : ∀ k, 1 ≤ k → k < 4 → bW k = nI (w k))
    (hp : ∀ b : Nat → Int32, (∀ j, j < 8 → b j = nI (ps_fs L s j)) → post (nI (ps_wt w L s lc)) (nI tc, nI lc, nI rc, nI ck, nI ml, yd, (fun j => nI (T j)), (fun j => nI (L j)), b, bW, bH, bK)) :
    ∀ d i (b : Nat → Int32), i + d = 8 → (∀ j, j < i → b j = nI (ps_fs L s j)) → wY_rewrite_106 post (nI s) (nI tc) (nI lc) (nI rc) (nI ck) (nI ml) yd (d + 1) (nI i) (fun j => nI (T j)) (fun j => nI (L j)) b bW bH bK := by
  have h8 := ps_p8 hlc
  intro d
  induction d with
  | zero =>
    intro i b hi hb
    cases (show i = 8 by omega)
    exact br_t (nI_le (a := 8) (b := 8) (Nat.le_refl _) (by decide)) (py_weight hlc hs hL hW (hp b hb))
  | succ d ih =>
    intro i b hi hb
    have st : ∀ x : Int32, x = nI (ps_fs L s i) → ∀ j, j < i + 1 → upd b (nI i).toNatClampNeg x j = nI (ps_fs L s j) := by
      intro x hx j hj
      rw [nI_clamp (by omega)]
      by_cases e : j = i
      · rw [e, pk_us, hx]
      · rw [pk_un e]
        exact hb j (by omega)
    refine br_f (nI_ge (b := 8) (by omega) (by decide)) ?_
    rw [ps_bit (by omega) (by omega)]
    have b2 := ps_b2 (s / 2 ^ i)
    refine pk_eq (s / 2 ^ i % 2) 1 (fun z => ?_) (fun z => ?_) rfl rfl (by omega)
    · refine ⟨vp_in_nI (by omega) (by omega), vp_in_nI (by omega) (by omega), nm_e (nm_r (nI_1 i) (ih (i + 1) _ (by omega) (st _ ?_)))⟩
      rw [ps_fs, if_pos z, nI_clamp (by omega)]
    · refine ⟨vp_in_nI (by omega) (by omega), nm_e (nm_r (nI_1 i) (ih (i + 1) _ (by omega) (st _ ?_)))⟩
      rw [ps_fs, if_neg z]
      rfl
theorem py_rend {post : Int32 → SY → Prop} {m : Nat} {w : Nat → Nat} (hlc : lc ≤ 8) (hs : m < 2 ^ lc) (hL : ∀ j, j < lc → ps_fc (L j)) (hW : ∀ k, 1 ≤ k → k < 4 → bW k = nI (w k))
    (h0 : m = 0 → post (-1) (nI tc, nI lc, nI rc, nI ck, nI ml, yd, (fun j => nI (T j)), (fun j => nI (L j)), bS, bW, bH, bK))
    (hp : ¬ m = 0 → ∀ b : Nat → Int32, (∀ j, j < 8 → b j = nI (ps_fs L m j)) → post (nI (ps_wt w L m lc)) (nI tc, nI lc, nI rc, nI ck, nI ml, yd, (fun j => nI (T j)), (fun j => nI (L j)), b, bW, bH, bK)) :
    ((0 : Int32) ≤ ps_bx m → ∃ n106 : Nat, wY_rewrite_106 post (ps_bx m) (nI tc) (nI lc) (nI rc) (nI ck) (nI ml) yd n106 0 (fun j => nI (T j)) (fun j => nI (L j)) bS bW bH bK) ∧ (¬ (0 : Int32) ≤ ps_bx m → post (-1) (nI tc, nI lc, nI rc, nI ck, nI ml, yd, (fun j => nI (T j)), (fun j => nI (L j)), bS, bW, bH, bK)) := by
  have h8 := ps_p8 hlc
  by_cases z : m = 0
  · rw [ps_bx, if_pos z]
    exact br_f (by decide) (h0 z)
  · rw [ps_bx, if_neg z]
    exact br_t (nI_pos' (by omega)) ⟨9, py_rfill hlc hs hL hW (hp z) 8 0 bS rfl (fun j h => absurd h (Nat.not_lt_zero j))⟩
theorem py_rstep {post : Int32 → SY → Prop} {J : Int32 → Int32 → Int32 → Int32 → Int32 → Int32 → Int32 → Int32 → (Nat → Int32) → (Nat → Int32) → (Nat → Int32) → (Nat → Int32) → (Nat → Int32) → (Nat → Int32) → Prop} {x1 x2 x3 z : Int32} {g : Nat → Bool} {w : Nat → Nat} {i : Nat}
    (hlc : lc ≤ 8) (hL : ∀ j, j < lc → ps_fc (L j)) (hW : ∀ k, 1 ≤ k → k < 4 → bW k = nI (w k)) (hw : ∀ k, w k ≤ 99) (hi : i < 256) (hg0 : g 0 = false) (hg : ∀ s, s < 256 → g s = true → s < 2 ^ lc) (hz : z = ps_i (g i))
    (hJ : J (ps_bx (ps_bs g (fun s => ps_wt w L s lc) (i + 1))) (nI (i + 1)) (nI tc) (nI lc) (nI rc) (nI ck) (nI ml) yd (fun j => nI (T j)) (fun j => nI (L j)) bS bW bH bK) :
    wY_rewrite_59 post J x1 x2 x3 (ps_bx (ps_bs g (fun s => ps_wt w L s lc) i)) (nI i) z (nI tc) (nI lc) (nI rc) (nI ck) (nI ml) yd (fun j => nI (T j)) (fun j => nI (L j)) bS bW bH bK := by
  subst hz
  have h8 := ps_p8 hlc
  refine ek_if (ps_i0 (g i)) (fun h => ?_) (fun h => ?_)
  · rw [ps_bsF h] at hJ
    exact nm_r (nI_1 i) hJ
  · have gi := ps_nt h
    have bi := ps_bs_in g (fun s => ps_wt w L s lc) i
    by_cases e : ps_bs g (fun s => ps_wt w L s lc) i = 0
    · rw [ps_bsT gi (Or.inl e)] at hJ
      rw [ps_bx, if_pos e]
      by_cases e0 : i = 0
      · rw [e0, hg0] at gi
        exact absurd gi (by decide)
      · rw [ps_bx, if_neg e0] at hJ
        exact br_t (by decide) (nm_r (nI_1 i) hJ)
    · have bl : ps_bs g (fun s => ps_wt w L s lc) i < 2 ^ lc := by
        rcases bi with q | q
        · exact absurd q e
        · exact hg _ (by omega) q.2
      have e0 : ¬ i = 0 := by
        intro q
        rw [q] at e
        exact e rfl
      rw [ps_bx, if_neg e]
      have b1 := ps_wt_le (L := L) (s := i) hw lc
      have b2 := ps_wt_le (L := L) (s := ps_bs g (fun s => ps_wt w L s lc) i) hw lc
      refine br_f (nI_pos (by omega)) (py_weight hlc (hg i hi gi) hL hW (py_weight hlc bl hL hW (pk_le _ _ (fun q => ?_) (fun q => ?_) rfl rfl (by omega) (by omega))))
      · rw [ps_bsN e (by show ¬ ps_wt w L i lc < _; omega), ps_bx, if_neg e] at hJ
        exact nm_r (nI_1 i) hJ
      · rw [ps_bsT gi (Or.inr q), ps_bx, if_neg e0] at hJ
        exact nm_r (nI_1 i) hJ
theorem px_ne1 {a : Nat} (h : a < 2 ^ 31) : ¬ nI a = -1 := fun e => nI_pos h (by rw [e]; decide)
theorem py_rloop {post : Int32 → SY → Prop} {f : Nat} {w : Nat → Nat} (hok : ps_ok T tc) (hlk : ps_lk T tc ≤ 8) (hdp : ps_dp T tc = 1) (htc : tc ≤ 15) (hlc : lc ≤ 8) (hL : ∀ j, j < lc → ps_fc (L j)) (hW : ∀ k, 1 ≤ k → k < 4 → bW k = nI (w k)) (hw : ∀ k, w k ≤ 99) (hf : f < 2 ^ lc)
    (h0 : ps_bs (fun s => ps_sb s f && ps_tr T tc s) (fun s => ps_wt w L s lc) (2 ^ lc) = 0 → ∀ K : Nat → Int32, post (-1) (nI tc, nI lc, nI rc, nI ck, nI ml, yd, (fun j => nI (T j)), (fun j => nI (L j)), bS, bW, bH, K))
    (hp : ¬ ps_bs (fun s => ps_sb s f && ps_tr T tc s) (fun s => ps_wt w L s lc) (2 ^ lc) = 0 → ∀ b K : Nat → Int32, (∀ j, j < 8 → b j = nI (ps_fs L (ps_bs (fun s => ps_sb s f && ps_tr T tc s) (fun s => ps_wt w L s lc) (2 ^ lc)) j)) → post (nI (ps_wt w L (ps_bs (fun s => ps_sb s f && ps_tr T tc s) (fun s => ps_wt w L s lc) (2 ^ lc)) lc)) (nI tc, nI lc, nI rc, nI ck, nI ml, yd, (fun j => nI (T j)), (fun j => nI (L j)), b, bW, bH, K)) :
    ∀ d i (K : Nat → Int32), i + d = 256 → wY_rewrite_6 post (nI f) 0 (-1) (d + 1) (ps_bx (ps_bs (fun s => ps_sb s f && ps_tr T tc s) (fun s => ps_wt w L s lc) i)) (nI i) (nI tc) (nI lc) (nI rc) (nI ck) (nI ml) yd (fun j => nI (T j)) (fun j => nI (L j)) bS bW bH K := by
  have h8 := ps_p8 hlc
  have hg : ∀ s, s < 256 → (fun s => ps_sb s f && ps_tr T tc s) s = true → s < 2 ^ lc := by
    intro s hs q
    refine Nat.lt_of_not_le fun q2 => ?_
    have e := ps_sb_lt (s := s) (by omega) hf q2
    simp [e] at q
  have hg0 : (fun s => ps_sb s f && ps_tr T tc s) 0 = false := by simp [ps_tr0]
  intro d
  induction d with
  | zero =>
    intro i K hi
    cases (show i = 256 by omega)
    rw [ps_bs_256 h8 (fun i a b => ps_nf fun q => absurd (hg i b q) (by omega))]
    refine br_t (nI_le (a := 256) (b := 256) (Nat.le_refl _) (by decide)) (py_rend hlc ?_ hL hW (fun z => h0 z K) (fun z b hb => hp z b K hb))
    have bi := ps_bs_in (fun s => ps_sb s f && ps_tr T tc s) (fun s => ps_wt w L s lc) (2 ^ lc)
    have p0 := ps_p0 lc
    omega
  | succ d ih =>
    intro i K hi
    have n := fun K => ih (i + 1) K (by omega)
    refine br_f (nI_ge (b := 256) (by omega) (by decide)) ?_
    refine br_c (fun c1 => ?_) (fun c1 => ?_)
    · have s1 : ps_sb i f = true := decide_eq_true c1
      refine br_f (px_ne1 (by omega)) (br_t rfl (py_true hok hlk hdp htc (by omega) (fun K' => ?_)))
      refine ek_if (ps_i0 _) (fun h => ?_) (fun h => ?_)
      · refine py_rstep hlc hL hW hw (by omega) hg0 hg ?_ (n K')
        rw [h, Bool.and_false]
        rfl
      · refine py_rstep hlc hL hW hw (by omega) hg0 hg ?_ (n K')
        rw [s1, ps_nt h]
        rfl
    · refine py_rstep hlc hL hW hw (by omega) hg0 hg ?_ (n K)
      have s1 : ps_sb i f = false := decide_eq_false c1
      simp [s1]
      rfl
theorem py_rew {post : Int32 → SY → Prop} {f : Nat} {w : Nat → Nat} (hok : ps_ok T tc) (hlk : ps_lk T tc ≤ 8) (hdp : ps_dp T tc = 1) (htc : tc ≤ 15) (hlc : lc ≤ 8) (hL : ∀ j, j < lc → ps_fc (L j)) (hW : ∀ k, 1 ≤ k → k < 4 → bW k = nI (w k)) (hw : ∀ k, w k ≤ 99) (hf : f < 2 ^ lc)
    (h0 : ps_bs (fun s => ps_sb s f && ps_tr T tc s) (fun s => ps_wt w L s lc) (2 ^ lc) = 0 → ∀ K : Nat → Int32, post (-1) (nI tc, nI lc, nI rc, nI ck, nI ml, yd, (fun j => nI (T j)), (fun j => nI (L j)), bS, bW, bH, K))
    (hp : ¬ ps_bs (fun s => ps_sb s f && ps_tr T tc s) (fun s => ps_wt w L s lc) (2 ^ lc) = 0 → ∀ b K : Nat → Int32, (∀ j, j < 8 → b j = nI (ps_fs L (ps_bs (fun s => ps_sb s f && ps_tr T tc s) (fun s => ps_wt w L s lc) (2 ^ lc)) j)) → post (nI (ps_wt w L (ps_bs (fun s => ps_sb s f && ps_tr T tc s) (fun s => ps_wt w L s lc) (2 ^ lc)) lc)) (nI tc, nI lc, nI rc, nI ck, nI ml, yd, (fun j => nI (T j)), (fun j => nI (L j)), b, bW, bH, K)) :
    wpY_rewrite post (nI tc, nI lc, nI rc, nI ck, nI ml, yd, (fun j => nI (T j)), (fun j => nI (L j)), bS, bW, bH, bK) (nI f) 0 (-1) :=
  ⟨257, py_rloop hok hlk hdp htc hlc hL hW hw hf h0 hp 256 0 bK rfl⟩
theorem py_rloopm {post : Int32 → SY → Prop} {f x : Nat} {w : Nat → Nat} (hok : ps_ok T tc) (hlk : ps_lk T tc ≤ 8) (hdp : ps_dp T tc = 1) (htc : tc ≤ 15) (hlc : lc ≤ 8) (hL : ∀ j, j < lc → ps_fc (L j)) (hW : ∀ k, 1 ≤ k → k < 4 → bW k = nI (w k)) (hw : ∀ k, w k ≤ 99) (hf : f < 2 ^ lc) (hx : x < 256)
    (h0 : ps_bs (ps_gm T tc lc f x) (fun s => ps_wt w L s lc) (2 ^ lc) = 0 → ∀ K : Nat → Int32, post (-1) (nI tc, nI lc, nI rc, nI ck, nI ml, yd, (fun j => nI (T j)), (fun j => nI (L j)), bS, bW, bH, K))
    (hp : ¬ ps_bs (ps_gm T tc lc f x) (fun s => ps_wt w L s lc) (2 ^ lc) = 0 → ∀ b K : Nat → Int32, (∀ j, j < 8 → b j = nI (ps_fs L (ps_bs (ps_gm T tc lc f x) (fun s => ps_wt w L s lc) (2 ^ lc)) j)) → post (nI (ps_wt w L (ps_bs (ps_gm T tc lc f x) (fun s => ps_wt w L s lc) (2 ^ lc)) lc)) (nI tc, nI lc, nI rc, nI ck, nI ml, yd, (fun j => nI (T j)), (fun j => nI (L j)), b, bW, bH, K)) :
    ∀ d i (K : Nat → Int32), i + d = 256 → wY_rewrite_6 post (nI f) 1 (nI x) (d + 1) (ps_bx (ps_bs (ps_gm T tc lc f x) (fun s => ps_wt w L s lc) i)) (nI i) (nI tc) (nI lc) (nI rc) (nI ck) (nI ml) yd (fun j => nI (T j)) (fun j => nI (L j)) bS bW bH K := by
  have h8 := ps_p8 hlc
  have hg : ∀ s, s < 256 → (ps_gm T tc lc f x) s = true → s < 2 ^ lc := by
    intro s hs q
    refine Nat.lt_of_not_le fun q2 => ?_
    have e := ps_sb_lt (s := s) (by omega) hf q2
    simp [ps_gm, e] at q
  have hg0 : (ps_gm T tc lc f x) 0 = false := by simp [ps_gm, ps_mn, ps_tr0]
  intro d
  induction d with
  | zero =>
    intro i K hi
    cases (show i = 256 by omega)
    rw [ps_bs_256 h8 (fun i a b => ps_nf fun q => absurd (hg i b q) (by omega))]
    refine br_t (nI_le (a := 256) (b := 256) (Nat.le_refl _) (by decide)) (py_rend hlc ?_ hL hW (fun z => h0 z K) (fun z b hb => hp z b K hb))
    have bi := ps_bs_in (ps_gm T tc lc f x) (fun s => ps_wt w L s lc) (2 ^ lc)
    have p0 := ps_p0 lc
    omega
  | succ d ih =>
    intro i K hi
    have n := fun K => ih (i + 1) K (by omega)
    refine br_f (nI_ge (b := 256) (by omega) (by decide)) ?_
    refine br_c (fun c1 => ?_) (fun c1 => ?_)
    · have s1 : ps_sb i f = true := decide_eq_true c1
      refine pk_eq i x (fun q => ?_) (fun q => ?_)
      · refine py_rstep hlc hL hW hw (by omega) hg0 hg ?_ (n K)
        rw [ps_gm, decide_eq_false (not_not_intro q)]
        rfl
      refine br_f (by decide) (py_min hok hlk hdp htc (by omega) (fun K' => ?_))
      have s2 : ps_mn (ps_tr T tc) 8 i = ps_mn (ps_tr T tc) lc i := by
        rw [ps_mn, ps_mn, ps_mnA_8 (Nat.lt_of_le_of_lt (ps_sble (by omega) c1) hf) hlc]
      refine ek_if (ps_i0 _) (fun h => ?_) (fun h => ?_)
      · refine py_rstep hlc hL hW hw (by omega) hg0 hg ?_ (n K')
        rw [s2] at h
        rw [ps_gm, h, Bool.and_false, Bool.and_false]
        rfl
      · refine py_rstep hlc hL hW hw (by omega) hg0 hg ?_ (n K')
        rw [s2] at h
        rw [ps_gm, s1, ps_nt h, decide_eq_true q]
        rfl
    · refine py_rstep hlc hL hW hw (by omega) hg0 hg ?_ (n K)
      have s1 : ps_sb i f = false := decide_eq_false c1
      simp [ps_gm, s1]
      rfl
theorem py_rewm {post : Int32 → SY → Prop} {f x : Nat} {w : Nat → Nat} (hok : ps_ok T tc) (hlk : ps_lk T tc ≤ 8) (hdp : ps_dp T tc = 1) (htc : tc ≤ 15) (hlc : lc ≤ 8) (hL : ∀ j, j < lc → ps_fc (L j)) (hW : ∀ k, 1 ≤ k → k < 4 → bW k = nI (w k)) (hw : ∀ k, w k ≤ 99) (hf : f < 2 ^ lc) (hx : x < 256)
    (h0 : ps_bs (ps_gm T tc lc f x) (fun s => ps_wt w L s lc) (2 ^ lc) = 0 → ∀ K : Nat → Int32, post (-1) (nI tc, nI lc, nI rc, nI ck, nI ml, yd, (fun j => nI (T j)), (fun j => nI (L j)), bS, bW, bH, K))
    (hp : ¬ ps_bs (ps_gm T tc lc f x) (fun s => ps_wt w L s lc) (2 ^ lc) = 0 → ∀ b K : Nat → Int32, (∀ j, j < 8 → b j = nI (ps_fs L (ps_bs (ps_gm T tc lc f x) (fun s => ps_wt w L s lc) (2 ^ lc)) j)) → post (nI (ps_wt w L (ps_bs (ps_gm T tc lc f x) (fun s => ps_wt w L s lc) (2 ^ lc)) lc)) (nI tc, nI lc, nI rc, nI ck, nI ml, yd, (fun j => nI (T j)), (fun j => nI (L j)), b, bW, bH, K)) :
    wpY_rewrite post (nI tc, nI lc, nI rc, nI ck, nI ml, yd, (fun j => nI (T j)), (fun j => nI (L j)), bS, bW, bH, bK) (nI f) 1 (nI x) :=
  ⟨257, py_rloopm hok hlk hdp htc hlc hL hW hw hf hx h0 hp 256 0 bK rfl⟩
end
end
section
section
variable {ml tc lc rc ck : Nat} {yd : Int32} {T L S : Nat → Nat} {bS bW bH bK : Nat → Int32}
theorem py_kend {post : Int32 → SY → Prop} {s : Nat} (hok : ps_ok T tc) (hlk : ps_lk T tc ≤ 8) (hdp : ps_dp T tc = 1) (htc : tc ≤ 15) (hs : s < 256) (hp : ∀ K : Nat → Int32, post (ps_i (!ps_tr T tc s)) (nI tc, nI lc, nI rc, nI ck, nI ml, yd, (fun j => nI (T j)), (fun j => nI (L j)), bS, bW, bH, K)) : wY_seal_69 post (nI s) (nI tc) (nI lc) (nI rc) (nI ck) (nI ml) yd (fun j => nI (T j)) (fun j => nI (L j)) bS bW bH bK := by
  refine py_true hok hlk hdp htc hs (fun K => ?_)
  have h := hp K
  by_cases c : ps_tr T tc s = true
  · rw [c] at h ⊢
    exact br_f (by decide) h
  · rw [ps_nf c] at h ⊢
    exact br_t (by decide) h
theorem py_kloop {post : Int32 → SY → Prop} (hok : ps_ok T tc) (hlk : ps_lk T tc ≤ 8) (hdp : ps_dp T tc = 1) (htc : tc ≤ 15) (hlc : lc ≤ 8) (hL : ∀ j, j < lc → ps_fc (L j)) (hp : ∀ K : Nat → Int32, post (ps_i (!ps_tr T tc (ps_mk (fun i => decide (¬ L i / 64 = 1)) lc))) (nI tc, nI lc, nI rc, nI ck, nI ml, yd, (fun j => nI (T j)), (fun j => nI (L j)), bS, bW, bH, K)) :
    ∀ d i, i + d = lc → wY_seal_30 post (nI tc) (nI lc) (nI rc) (nI ck) (nI ml) yd (fun j => nI (T j)) (fun j => nI (L j)) bS bW bH bK (d + 1) (nI (ps_mk (fun i => decide (¬ L i / 64 = 1)) i)) (nI i) := by
  have h8 := Nat.lt_of_lt_of_le (ps_mk_lt (fun i => decide (¬ L i / 64 = 1)) lc) (ps_p8 hlc)
  intro d
  induction d with
  | zero =>
    intro i hi
    cases (show i = lc by omega)
    exact br_c (fun _ => py_kend hok hlk hdp htc h8 hp) (fun _ => br_t (nI_le (Nat.le_refl _) (by omega)) (py_kend hok hlk hdp htc h8 hp))
  | succ d ih =>
    intro i hi
    have n := ih (i + 1) (by omega)
    obtain ⟨l1, l2, l3⟩ := hL i (by omega)
    refine br_f (nI_ge (b := 8) (by omega) (by decide)) (br_f (nI_ge (by omega) (by omega)) ⟨vp_in_nI (by omega) (by omega), by decide, ?_⟩)
    rw [nI_clamp (show i < 2 ^ 31 by omega), px_div64 (by omega)]
    refine pk_eq (L i / 64) 1 (fun h => ?_) (fun h => ?_)
    · rw [ps_mkF (by simp [h])] at n
      exact nm_r (nI_1 i) n
    · rw [ps_mkT (by simp [h])] at n
      exact nm_r (px_set (by omega)) (nm_r (nI_1 i) n)
theorem py_oloop {post : SY → Prop} (hp : ∀ b : Nat → Int32, (∀ j, j < 8 → b j = 0) → post (nI tc, nI lc, nI rc, nI ck, nI ml, yd, (fun j => nI (T j)), (fun j => nI (L j)), b, bW, bH, bK)) :
    ∀ d i (b : Nat → Int32), i + d = 8 → (∀ j, j < i → b j = 0) → wY_reopen_22 post (nI tc) (nI lc) (nI rc) (nI ck) (nI ml) yd (d + 1) (nI i) (fun j => nI (T j)) (fun j => nI (L j)) b bW bH bK := by
  intro d
  induction d with
  | zero =>
    intro i b hi hb
    cases (show i = 8 by omega)
    exact br_t (nI_le (a := 8) (b := 8) (Nat.le_refl _) (by decide)) (hp b hb)
  | succ d ih =>
    intro i b hi hb
    refine br_f (nI_ge (b := 8) (by omega) (by decide)) ⟨vp_in_nI (by omega) (by omega), nm_e (nm_r (nI_1 i) (ih (i + 1) _ (by omega) ?_))⟩
    intro j hj
    rw [nI_clamp (by omega)]
    by_cases e : j = i
    · rw [e, pk_us]
    · rw [pk_un e]
      exact hb j (by omega)
theorem py_vdraft {post : Int32 → SY → Prop} {x1 x2 : Int32} (hd : yd = 0) (hp : post (-6) (nI tc, nI lc, nI rc, nI ck, nI ml, yd, (fun j => nI (T j)), (fun j => nI (L j)), bS, bW, bH, bK)) :
    ∀ d i, i + d = 256 → wY_variants_9 post x1 (d + 1) x2 (nI i) (nI tc) (nI lc) (nI rc) (nI ck) (nI ml) yd (fun j => nI (T j)) (fun j => nI (L j)) bS bW bH bK := by
  intro d
  induction d with
  | zero =>
    intro i hi
    cases (show i = 256 by omega)
    exact br_t (nI_le (a := 256) (b := 256) (Nat.le_refl _) (by decide)) (br_t hd hp)
  | succ d ih =>
    intro i hi
    exact br_f (nI_ge (b := 256) (by omega) (by decide)) (br_t hd (nm_r (nI_1 i) (ih (i + 1) (by omega))))
theorem py_vloop {post : Int32 → SY → Prop} {f : Nat} (hd : ¬ yd = 0) (hok : ps_ok T tc) (hlk : ps_lk T tc ≤ 8) (hdp : ps_dp T tc = 1) (htc : tc ≤ 15) (hlc : lc ≤ 8) (hf : f < 2 ^ lc)
    (hp : ∀ K : Nat → Int32, post (nI (ps_ct (fun s => ps_sb s f && ps_mn (ps_tr T tc) lc s) (2 ^ lc))) (nI tc, nI lc, nI rc, nI ck, nI ml, yd, (fun j => nI (T j)), (fun j => nI (L j)), bS, bW, bH, K)) :
    ∀ d i (K : Nat → Int32), i + d = 256 → wY_variants_9 post (nI f) (d + 1) (nI (ps_ct (fun s => ps_sb s f && ps_mn (ps_tr T tc) lc s) i)) (nI i) (nI tc) (nI lc) (nI rc) (nI ck) (nI ml) yd (fun j => nI (T j)) (fun j => nI (L j)) bS bW bH K := by
  have h8 := ps_p8 hlc
  intro d
  induction d with
  | zero =>
    intro i K hi
    cases (show i = 256 by omega)
    rw [ps_ct_256 h8 (fun i a b => by rw [ps_sb_lt (by omega) hf a, Bool.false_and])]
    exact br_t (nI_le (a := 256) (b := 256) (Nat.le_refl _) (by decide)) (br_f hd (hp K))
  | succ d ih =>
    intro i K hi
    have n := fun K => ih (i + 1) K (by omega)
    refine br_f (nI_ge (b := 256) (by omega) (by decide)) (br_f hd (br_c (fun c1 => ?_) (fun c1 => ?_)))
    · have s1 : ps_sb i f = true := decide_eq_true c1
      refine py_min hok hlk hdp htc (by omega) (fun K' => ?_)
      have s2 : ps_mn (ps_tr T tc) 8 i = ps_mn (ps_tr T tc) lc i := by
        rw [ps_mn, ps_mn, ps_mnA_8 (Nat.lt_of_le_of_lt (ps_sble (by omega) c1) hf) hlc]
      have n' := n K'
      rw [s2]
      refine ek_if (ps_i0 _) (fun h => ?_) (fun h => ?_)
      · rw [ps_ctF (by rw [h, Bool.and_false])] at n'
        exact nm_r (nI_1 i) n'
      · rw [ps_ctT (by rw [s1, ps_nt h]; rfl)] at n'
        exact nm_r (nI_1 _) (nm_r (nI_1 i) n')
    · have s1 : ps_sb i f = false := decide_eq_false c1
      have n' := n K
      rw [ps_ctF (by rw [s1, Bool.false_and])] at n'
      exact nm_r (nI_1 i) n'
theorem py_send {post : Int32 → SY → Prop} (hok : ps_ok T tc) (hlk : ps_lk T tc ≤ 8) (hdp : ps_dp T tc = 1) (htc : tc ≤ 15) (hlc : lc ≤ 8)
    (hp : ∀ K : Nat → Int32, post (nI (if ps_tr T tc (ps_mk (ps_fl S) lc) = true then (if ps_mn (ps_tr T tc) lc (ps_mk (ps_fl S) lc) = true then 1 else 4) else 3)) (nI tc, nI lc, nI rc, nI ck, nI ml, yd, (fun j => nI (T j)), (fun j => nI (L j)), bS, bW, bH, K)) (n : Nat) :
    wY_spend_17 post (nI (ps_mk (ps_fl S) lc)) (nI tc) (nI lc) (nI rc) (nI ck) (nI ml) yd (fun j => nI (T j)) (fun j => nI (L j)) bS bW bH bK (n + 1) (nI 8) := by
  have h8 : ps_mk (ps_fl S) lc < 256 := Nat.lt_of_lt_of_le (ps_mk_lt _ _) (ps_p8 hlc)
  refine br_t (nI_le (Nat.le_refl _) (by decide)) (py_true hok hlk hdp htc h8 (fun K => ?_))
  by_cases c2 : ps_tr T tc (ps_mk (ps_fl S) lc) = true
  · rw [if_pos c2] at hp
    rw [c2]
    refine br_f (by decide) (py_min hok hlk hdp htc h8 (fun K' => ?_))
    have h := hp K'
    have s2 : ps_mn (ps_tr T tc) 8 (ps_mk (ps_fl S) lc) = ps_mn (ps_tr T tc) lc (ps_mk (ps_fl S) lc) := by
      rw [ps_mn, ps_mn, ps_mnA_8 (ps_mk_lt _ _) hlc]
    rw [s2]
    by_cases c3 : ps_mn (ps_tr T tc) lc (ps_mk (ps_fl S) lc) = true
    · rw [if_pos c3] at h
      rw [c3]
      exact br_f (by decide) h
    · rw [if_neg c3] at h
      rw [ps_nf c3]
      exact br_t (by decide) h
  · have h := hp K
    rw [if_neg c2] at h
    rw [ps_nf c2]
    exact br_t (by decide) h
theorem py_sloop {post : Int32 → SY → Prop} (hok : ps_ok T tc) (hlk : ps_lk T tc ≤ 8) (hdp : ps_dp T tc = 1) (htc : tc ≤ 15) (hlc : lc ≤ 8) (hck : ck < 64) (hB : ∀ j, j < 8 → bS j = nI (S j)) (hb : ∀ j, j < 8 → S j < 256) (hz : ∀ j, lc ≤ j → j < 8 → S j = 0) (hL : ∀ j, j < lc → ps_fc (L j))
    (hp : ∀ K : Nat → Int32, post (nI (ps_sp T L S tc lc ck)) (nI tc, nI lc, nI rc, nI ck, nI ml, yd, (fun j => nI (T j)), (fun j => nI (L j)), bS, bW, bH, K)) :
    ∀ d i, i + d = 8 → ps_ex (ps_wr L S ck) i = false → wY_spend_17 post (nI (ps_mk (ps_fl S) lc)) (nI tc) (nI lc) (nI rc) (nI ck) (nI ml) yd (fun j => nI (T j)) (fun j => nI (L j)) bS bW bH bK (d + 1) (nI i) := by
  have x8 : ps_ex (ps_wr L S ck) 8 = ps_ex (ps_wr L S ck) lc := ps_ex_8 hlc (fun i a b => by
    have e : ps_fl S i = false := decide_eq_false (not_not_intro (hz i a b))
    rw [ps_wr, e, Bool.false_and])
  intro d
  induction d with
  | zero =>
    intro i hi hm
    cases (show i = 8 by omega)
    refine py_send hok hlk hdp htc hlc (fun K => ?_) 0
    have h := hp K
    rw [ps_sp, if_neg (by rw [← x8, hm]; decide)] at h
    exact h
  | succ d ih =>
    intro i hi hm
    have b := hb i (by omega)
    refine br_f (nI_ge (b := 8) (by omega) (by decide)) ⟨vp_in_nI (by omega) (by omega), ?_⟩
    rw [nI_clamp (by omega), hB i (by omega)]
    refine pk_eq (S i) 0 (fun h => ?_) (fun h => ?_)
    · refine nm_r (nI_1 i) (ih (i + 1) (by omega) ?_)
      have e : ps_fl S i = false := decide_eq_false (not_not_intro h)
      rw [ps_exF (by rw [ps_wr, e, Bool.false_and])]
      exact hm
    · have il : i < lc := Nat.lt_of_not_le fun q => h (hz i q (by omega))
      have e : ps_fl S i = true := decide_eq_true h
      refine py_fits il hlc hck (hB i (by omega)) b (hL i il) (ek_if (ps_i0 _) (fun f => ?_) (fun f => ?_))
      · have h := hp bK
        rw [ps_sp, if_pos (ps_ex_le (ps_exT (p := ps_wr L S ck) (m := i) (by rw [ps_wr, e, f]; rfl)) (show i + 1 ≤ lc by omega))] at h
        exact h
      · refine nm_r (nI_1 i) (ih (i + 1) (by omega) ?_)
        rw [ps_exF (by rw [ps_wr, e, ps_nt f]; rfl)]
        exact hm
theorem py_edraft {post : Int32 → SY → Prop} {xe : Int32} (hd : yd = 0) (hlc : lc ≤ 8) (hL : ∀ j, j < lc → ps_fc (L j)) (hH : ∀ c, 64 ≤ c → c < 192 → c % 64 < 8 → bH c = ps_i (ps_hd xe c)) (hp : post (-6) (nI tc, nI lc, nI rc, nI ck, nI ml, yd, (fun j => nI (T j)), (fun j => nI (L j)), bS, bW, bH, bK)) :
    ∀ d t, t + d = 64 → wY_earliest_2 post (d + 1) (nI t) (nI tc) (nI lc) (nI rc) (nI ck) (nI ml) yd (fun j => nI (T j)) (fun j => nI (L j)) bS bW bH bK := by
  intro d
  induction d with
  | zero =>
    intro t ht
    cases (show t = 64 by omega)
    exact br_t (nI_le (a := 64) (b := 64) (Nat.le_refl _) (by decide)) (br_t hd hp)
  | succ d ih =>
    intro t ht
    exact br_f (nI_ge (b := 64) (by omega) (by decide)) (py_owners hlc (by omega) hL hH (br_t hd (nm_r (nI_1 t) (ih (t + 1) (by omega)))))
theorem py_eloop {post : Int32 → SY → Prop} {xe : Int32} (hd : ¬ yd = 0) (hok : ps_ok T tc) (hlk : ps_lk T tc ≤ 8) (hdp : ps_dp T tc = 1) (htc : tc ≤ 15) (hlc : lc ≤ 8) (hL : ∀ j, j < lc → ps_fc (L j)) (hH : ∀ c, 64 ≤ c → c < 192 → c % 64 < 8 → bH c = ps_i (ps_hd xe c)) :
    ∀ d t (K : Nat → Int32), t + d = 64 → (∀ K : Nat → Int32, post (ps_er (fun t => ps_tr T tc (ps_mk (ps_ow L xe t) lc)) d t) (nI tc, nI lc, nI rc, nI ck, nI ml, yd, (fun j => nI (T j)), (fun j => nI (L j)), bS, bW, bH, K)) → wY_earliest_2 post (d + 1) (nI t) (nI tc) (nI lc) (nI rc) (nI ck) (nI ml) yd (fun j => nI (T j)) (fun j => nI (L j)) bS bW bH K := by
  intro d
  induction d with
  | zero =>
    intro t K ht hp
    cases (show t = 64 by omega)
    exact br_t (nI_le (a := 64) (b := 64) (Nat.le_refl _) (by decide)) (br_f hd (hp K))
  | succ d ih =>
    intro t K ht hp
    refine br_f (nI_ge (b := 64) (by omega) (by decide)) (py_owners hlc (by omega) hL hH (br_f hd (py_true hok hlk hdp htc (Nat.lt_of_lt_of_le (ps_mk_lt _ _) (ps_p8 hlc)) (fun K' => ?_))))
    by_cases c : ps_tr T tc (ps_mk (ps_ow L xe t) lc) = true
    · have h := hp K'
      rw [ps_erT (P := fun t => ps_tr T tc (ps_mk (ps_ow L xe t) lc)) c] at h
      rw [c]
      exact br_f (by decide) h
    · rw [ps_erF (P := fun t => ps_tr T tc (ps_mk (ps_ow L xe t) lc)) (ps_nf c)] at hp
      rw [ps_nf c]
      exact br_t (by decide) (nm_r (nI_1 t) (ih (t + 1) K' (by omega) hp))
end
end
section
def ps_up (T : Nat → Nat) (k c : Nat) : Nat → Nat := fun j => if j = k then c else T j
theorem ps_up_s {T : Nat → Nat} {k c : Nat} : ps_up T k c k = c := if_pos rfl
theorem ps_up_n {T : Nat → Nat} {k c j : Nat} (h : ¬ j = k) : ps_up T k c j = T j := if_neg h
theorem px_upd {T : Nat → Nat} {k c : Nat} (hk : k < 2 ^ 31) : upd (fun j => nI (T j)) (nI k).toNatClampNeg (nI c) = fun j => nI (ps_up T k c j) := by
  rw [nI_clamp hk]
  funext j
  show (if j = k then nI c else nI (T j)) = nI (if j = k then c else T j)
  split <;> rfl
def ps_iv (T L S : Nat → Nat) (ml kw hw aw tc lc rc ck : Nat) (xd xe : Int32) (aS bS bW bH : Nat → Int32) : Prop :=
  (ps_ok T tc ∧ ps_lk T tc = lc ∧ ps_dp T tc = rc ∧ lc ≤ ml ∧ ml ≤ 8 ∧ tc + rc ≤ 2 * lc ∧ tc ≤ 15) ∧ (∀ j, j < lc → ps_fc (L j)) ∧ (kw ≤ 99 ∧ hw ≤ 99 ∧ aw ≤ 99 ∧ ck < 64) ∧ (xd = 0 ∨ (xd = 1 ∧ rc = 1)) ∧
  (∀ k, 1 ≤ k → k < 4 → bW k = nI (ps_w kw hw aw k)) ∧ (∀ c, 64 ≤ c → c < 192 → c % 64 < 8 → bH c = ps_i (ps_hd xe c)) ∧
  (∀ j, j < 8 → bS j = nI (S j)) ∧ (∀ j, j < 8 → S j < 256) ∧ (∀ j, lc ≤ j → j < 8 → S j = 0) ∧ (xd = 0 → ∀ j, j < 8 → S j = 0) ∧ (¬ xd = 0 → ∀ j, j < lc → aS j = nI (S j))
def i_Rel (_ : Nat) (u : SX) (v : SY) : Prop := ∃ (T L S : Nat → Nat) (ml kw hw aw tc lc rc ck : Nat) (xd xe : Int32) (aS bS bW bH bK : Nat → Int32),
  u = (nI ml, nI kw, nI hw, nI aw, nI tc, nI lc, nI rc, xd, xe, nI ck, (fun j => nI (T j)), (fun j => nI (L j)), aS) ∧ v = (nI tc, nI lc, nI rc, nI ck, nI ml, xd, (fun j => nI (T j)), (fun j => nI (L j)), bS, bW, bH, bK) ∧ ps_iv T L S ml kw hw aw tc lc rc ck xd xe aS bS bW bH
theorem i_up {k : Nat} {u : SX} {v : SY} (h : i_Rel k u v) : i_Rel (k + 4) u v := h
theorem ps_ok_up {T : Nat → Nat} {tc c : Nat} (h : ps_ok T tc) (hc : c < 320) (hj : 256 ≤ c → (c - 256) % 8 + 1 ≤ ps_dp T tc) : ps_ok (ps_up T tc c) (tc + 1) := by
  intro i hi
  have e : ∀ j, j < i → ps_up T tc c j = T j := fun j hj => ps_up_n (by omega)
  rw [ps_dp_c i e]
  by_cases z : i = tc
  · subst z
    rw [ps_up_s]
    exact ⟨hc, hj⟩
  · rw [ps_up_n z]
    exact h i (by omega)
theorem ps_dp_up {T : Nat → Nat} {tc c : Nat} : ps_dp (ps_up T tc c) (tc + 1) = if c < 256 then ps_dp T tc + 1 else ps_dp T tc - (c - 256) % 8 := by
  show (if ps_up T tc c tc < 256 then ps_dp (ps_up T tc c) tc + 1 else ps_dp (ps_up T tc c) tc - (ps_up T tc c tc - 256) % 8) = _
  rw [ps_up_s, ps_dp_c tc (fun j hj => ps_up_n (by omega))]
theorem ps_lk_up {T : Nat → Nat} {tc c : Nat} : ps_lk (ps_up T tc c) (tc + 1) = if c < 256 then ps_lk T tc + 1 else ps_lk T tc := by
  show (if ps_up T tc c tc < 256 then ps_lk (ps_up T tc c) tc + 1 else ps_lk (ps_up T tc c) tc) = _
  rw [ps_up_s, ps_lk_c tc (fun j hj => ps_up_n (by omega))]
theorem px_ge8 {x : Int32} (h : nI 8 ≤ x) : (7 : Int32) < x ∧ ¬ x < 0 := by
  rw [Int32.le_iff_toInt_le, nI_toInt (by decide)] at h
  constructor
  · rw [Int32.lt_iff_toInt_lt, show (7 : Int32).toInt = 7 by decide]
    omega
  · rw [Int32.lt_iff_toInt_lt, show (0 : Int32).toInt = 0 by decide]
    omega
theorem px_ge64 {x : Int32} (h : nI 64 ≤ x) : (63 : Int32) < x ∧ ¬ x < 0 ∧ ¬ x ≤ 63 := by
  rw [Int32.le_iff_toInt_le, nI_toInt (by decide)] at h
  refine ⟨?_, ?_, ?_⟩
  · rw [Int32.lt_iff_toInt_lt, show (63 : Int32).toInt = 63 by decide]
    omega
  · rw [Int32.lt_iff_toInt_lt, show (0 : Int32).toInt = 0 by decide]
    omega
  · rw [Int32.le_iff_toInt_le, show (63 : Int32).toInt = 63 by decide]
    omega
theorem px_sec (k : Nat) (hk : k = 1 ∨ k = 2) (p1 : Int32) : (∃ c, 64 ≤ c ∧ c < 192 ∧ c % 64 < 8 ∧ nI k = nI (c / 64) ∧ p1 = nI (c % 64) ∧ (∀ post : Int32 → Prop, post 1 → wX_isSecret_10 post p1) ∧ (∀ (post : Int32 → Prop) (v1 v2 v3 v4 v5 v6 : Int32) (w1 w2 w3 w4 w5 w6 : Nat → Int32), post 1 → wY_isSecret_10 post p1 v1 v2 v3 v4 v5 v6 w1 w2 w3 w4 w5 w6))
    ∨ ((∀ post : Int32 → Prop, post 0 → wX_isSecret_10 post p1) ∧ (∀ (post : Int32 → Prop) (v1 v2 v3 v4 v5 v6 : Int32) (w1 w2 w3 w4 w5 w6 : Nat → Int32), post 0 → wY_isSecret_10 post p1 v1 v2 v3 v4 v5 v6 w1 w2 w3 w4 w5 w6)) := by
  rcases pk_ix p1 (n := 8) (by decide) with h | h | ⟨j, hj, rfl⟩
  · exact Or.inr ⟨fun post hp => br_t h hp, fun post _ _ _ _ _ _ _ _ _ _ _ _ hp => br_t h hp⟩
  · exact Or.inr ⟨fun post hp => br_f (px_ge8 h).2 (br_t h hp), fun post _ _ _ _ _ _ _ _ _ _ _ _ hp => br_f (px_ge8 h).2 (br_t (px_ge8 h).1 hp)⟩
  · refine Or.inl ⟨k * 64 + j, by omega, by omega, by omega, ?_, ?_, fun post hp => br_f (nI_pos (by omega)) (br_f (nI_ge (b := 8) hj (by decide)) hp), fun post _ _ _ _ _ _ _ _ _ _ _ _ hp => br_f (nI_pos (by omega)) (br_f (nI_nlt (a := 7) (by omega) (by decide)) hp)⟩
    · rw [show (k * 64 + j) / 64 = k by omega]
    · rw [show (k * 64 + j) % 64 = j by omega]
theorem px_secret (p0 p1 : Int32) : (∃ c, 64 ≤ c ∧ c < 192 ∧ c % 64 < 8 ∧ p0 = nI (c / 64) ∧ p1 = nI (c % 64) ∧ (∀ post : Int32 → Prop, post 1 → wpX_isSecret post p0 p1) ∧ (∀ (post : Int32 → Prop) (v1 v2 v3 v4 v5 v6 : Int32) (w1 w2 w3 w4 w5 w6 : Nat → Int32), post 1 → wpY_isSecret post (v1, v2, v3, v4, v5, v6, w1, w2, w3, w4, w5, w6) p0 p1))
    ∨ ((∀ post : Int32 → Prop, post 0 → wpX_isSecret post p0 p1) ∧ (∀ (post : Int32 → Prop) (v1 v2 v3 v4 v5 v6 : Int32) (w1 w2 w3 w4 w5 w6 : Nat → Int32), post 0 → wpY_isSecret post (v1, v2, v3, v4, v5, v6, w1, w2, w3, w4, w5, w6) p0 p1)) := by
  by_cases h1 : p0 = 1
  · rcases px_sec 1 (Or.inl rfl) p1 with ⟨c, a, b, d, e0, e1, hX, hY⟩ | ⟨hX, hY⟩
    · exact Or.inl ⟨c, a, b, d, h1.trans e0, e1, fun post hp => br_t h1 (hX post hp), fun post _ _ _ _ _ _ _ _ _ _ _ _ hp => br_t h1 (hY post _ _ _ _ _ _ _ _ _ _ _ _ hp)⟩
    · exact Or.inr ⟨fun post hp => br_t h1 (hX post hp), fun post _ _ _ _ _ _ _ _ _ _ _ _ hp => br_t h1 (hY post _ _ _ _ _ _ _ _ _ _ _ _ hp)⟩
  · by_cases h2 : p0 = 2
    · rcases px_sec 2 (Or.inr rfl) p1 with ⟨c, a, b, d, e0, e1, hX, hY⟩ | ⟨hX, hY⟩
      · exact Or.inl ⟨c, a, b, d, h2.trans e0, e1, fun post hp => br_f h1 (br_t h2 (hX post hp)), fun post _ _ _ _ _ _ _ _ _ _ _ _ hp => br_f h1 (br_t h2 (hY post _ _ _ _ _ _ _ _ _ _ _ _ hp))⟩
      · exact Or.inr ⟨fun post hp => br_f h1 (br_t h2 (hX post hp)), fun post _ _ _ _ _ _ _ _ _ _ _ _ hp => br_f h1 (br_t h2 (hY post _ _ _ _ _ _ _ _ _ _ _ _ hp))⟩
    · exact Or.inr ⟨fun post hp => br_f h1 (br_f h2 hp), fun post _ _ _ _ _ _ _ _ _ _ _ _ hp => br_f h1 (br_f h2 hp)⟩
theorem px_fit (p0 p1 : Int32) : (∃ c, ps_fc c ∧ p0 = nI (c / 64) ∧ p1 = nI (c % 64) ∧ (∀ post : Int32 → Prop, post 1 → wpX_isFitPair post p0 p1) ∧ (∀ (post : Int32 → Prop) (v1 v2 v3 v4 v5 v6 : Int32) (w1 w2 w3 w4 w5 w6 : Nat → Int32), post 1 → wpY_isFit post (v1, v2, v3, v4, v5, v6, w1, w2, w3, w4, w5, w6) p0 p1))
    ∨ ((∀ post : Int32 → Prop, post 0 → wpX_isFitPair post p0 p1) ∧ (∀ (post : Int32 → Prop) (v1 v2 v3 v4 v5 v6 : Int32) (w1 w2 w3 w4 w5 w6 : Nat → Int32), post 0 → wpY_isFit post (v1, v2, v3, v4, v5, v6, w1, w2, w3, w4, w5, w6) p0 p1)) := by
  by_cases h3 : p0 = 3
  · have n1 : ¬ p0 = 1 := by rw [h3]; decide
    have n2 : ¬ p0 = 2 := by rw [h3]; decide
    have sY : ∀ (post : Int32 → Prop) (v1 v2 v3 v4 v5 v6 : Int32) (w1 w2 w3 w4 w5 w6 : Nat → Int32), post 0 → wpY_isSecret post (v1, v2, v3, v4, v5, v6, w1, w2, w3, w4, w5, w6) p0 p1 := fun post _ _ _ _ _ _ _ _ _ _ _ _ hp => br_f n1 (br_f n2 hp)
    rcases pk_ix p1 (n := 64) (by decide) with h | h | ⟨j, hj, rfl⟩
    · exact Or.inr ⟨fun post hp => br_t h3 (br_t h hp), fun post _ _ _ _ _ _ _ _ _ _ _ _ hp => sY _ _ _ _ _ _ _ _ _ _ _ _ _ (br_t rfl (br_t h3 (br_t h hp)))⟩
    · exact Or.inr ⟨fun post hp => br_t h3 (br_f (px_ge64 h).2.1 (br_t (px_ge64 h).1 hp)), fun post _ _ _ _ _ _ _ _ _ _ _ _ hp => sY _ _ _ _ _ _ _ _ _ _ _ _ _ (br_t rfl (br_t h3 (br_f (px_ge64 h).2.1 (br_t (px_ge64 h).1 hp))))⟩
    · have g : ¬ (63 : Int32) < nI j := nI_nlt (a := 63) (by omega) (by decide)
      refine Or.inl ⟨192 + j, ⟨by omega, by omega, by omega⟩, ?_, ?_, fun post hp => br_t h3 (br_f (nI_pos (by omega)) (br_f g hp)), fun post _ _ _ _ _ _ _ _ _ _ _ _ hp => sY _ _ _ _ _ _ _ _ _ _ _ _ _ (br_t rfl (br_t h3 (br_f (nI_pos (by omega)) (br_f g hp))))⟩
      · rw [h3, show (192 + j) / 64 = 3 by omega]
        rfl
      · rw [show (192 + j) % 64 = j by omega]
  · rcases px_secret p0 p1 with ⟨c, a, b, d, e0, e1, hX, hY⟩ | ⟨hX, hY⟩
    · exact Or.inl ⟨c, ⟨a, by omega, fun _ => d⟩, e0, e1, fun post hp => br_f h3 (hX _ ⟨by decide, hp⟩), fun post _ _ _ _ _ _ _ _ _ _ _ _ hp => hY _ _ _ _ _ _ _ _ _ _ _ _ _ (br_f (by decide) hp)⟩
    · exact Or.inr ⟨fun post hp => br_f h3 (hX _ ⟨by decide, hp⟩), fun post _ _ _ _ _ _ _ _ _ _ _ _ hp => hY _ _ _ _ _ _ _ _ _ _ _ _ _ (br_t rfl (br_f h3 hp))⟩
theorem px_cd (c : Nat) : nI (c / 64) * 64 + nI (c % 64) = nI c := by
  have e : nI (c / 64) * 64 = nI (c / 64 * 64) := pk_mul _ 64
  rw [e, nI_add, show c / 64 * 64 + c % 64 = c by omega]
theorem px_code {post : Int32 → Prop} {c : Nat} (hp : post (nI c)) : wpX_codeOf post (nI (c / 64)) (nI (c % 64)) := ek_v (P := post) (px_cd c) hp
theorem ps_hd_flip {e : Int32} {c c' : Nat} (a : 64 ≤ c) (b : c < 192) (d : c % 64 < 8) (a' : 64 ≤ c') (b' : c' < 192) (d' : c' % 64 < 8) :
    ps_hd (e ^^^ ((1 : Int32) <<< (nI ((c / 64 - 1) * 8 + c % 64) &&& 31))) c' = (ps_hd e c' ^^ decide (c' = c)) := by
  unfold ps_hd
  rw [b_xor, ps_1sh _ (by omega) _ (by omega)]
  refine congrArg _ ?_
  by_cases h : c' = c
  · rw [decide_eq_true h, decide_eq_true (by omega)]
  · rw [decide_eq_false h, decide_eq_false (by omega)]
section
variable {ml kw hw aw tc lc rc ck : Nat} {xd xe : Int32} {T L : Nat → Nat} {aS : Nat → Int32}
theorem px_append {post : SX → Prop} {c : Nat} (h : tc < 15) (hp : post (nI ml, nI kw, nI hw, nI aw, nI (tc + 1), nI lc, nI rc, xd, xe, nI ck, (fun j => nI (ps_up T tc c j)), (fun j => nI (L j)), aS)) : wpX_appendToken post (nI ml, nI kw, nI hw, nI aw, nI tc, nI lc, nI rc, xd, xe, nI ck, (fun j => nI (T j)), (fun j => nI (L j)), aS) (nI c) :=
  br_f (nI_ge (b := 15) h (by decide)) ⟨vp_in_nI h (by decide), nm_r (px_upd (by omega)) (nm_r (nI_1 tc) hp)⟩
end
end
section
theorem px_clampv (x : Int32) (a b : Nat) (hab : a ≤ b) (hb : b < 2 ^ 30) : ∃ m : Nat, a ≤ m ∧ m ≤ b ∧ (∀ post : Int32 → Prop, post (nI m) → wpX_clamp post x (nI a) (nI b)) ∧ (∀ (post : Int32 → Prop) (v1 v2 v3 v4 v5 v6 : Int32) (w1 w2 w3 w4 w5 w6 : Nat → Int32), post (nI m) → wpY_clamp post (v1, v2, v3, v4, v5, v6, w1, w2, w3, w4, w5, w6) x (nI a) (nI b)) := by
  by_cases h1 : nI a ≤ x
  · have h0 : ¬ x < 0 := by
      rw [Int32.le_iff_toInt_le, nI_toInt (by omega)] at h1
      rw [Int32.lt_iff_toInt_lt, show (0 : Int32).toInt = 0 by decide]
      omega
    obtain ⟨j, hj, rfl⟩ := nI_of h0
    have h1' := (nI_leI (by omega) hj).mp h1
    by_cases h2 : nI j ≤ nI b
    · have h2' := (nI_leI hj (by omega)).mp h2
      exact ⟨j, h1', h2', fun post hp => br_t h1 (br_t h2 hp), fun post _ _ _ _ _ _ _ _ _ _ _ _ hp => br_t h1 (br_t h2 hp)⟩
    · exact ⟨b, hab, Nat.le_refl _, fun post hp => br_t h1 (br_f h2 hp), fun post _ _ _ _ _ _ _ _ _ _ _ _ hp => br_t h1 (br_f h2 hp)⟩
  · exact ⟨a, Nat.le_refl _, hab, fun post hp => br_f h1 hp, fun post _ _ _ _ _ _ _ _ _ _ _ _ hp => br_f h1 hp⟩
theorem ps_iv0 {ml kw hw aw : Nat} (h1 : ml ≤ 8) (h2 : kw ≤ 99) (h3 : hw ≤ 99) (h4 : aw ≤ 99) : ps_iv (fun _ => 0) (fun _ => 0) (fun _ => 0) ml kw hw aw 0 0 0 0 0 0 (fun _ => 0) (fun _ => 0) (upd (upd (upd (fun _ => 0) 1 (nI kw)) 2 (nI hw)) 3 (nI aw)) (fun _ => 0) := by
  refine ⟨⟨fun i h => absurd h (Nat.not_lt_zero i), rfl, rfl, Nat.zero_le _, h1, Nat.le_refl 0, Nat.zero_le _⟩, fun j h => absurd h (Nat.not_lt_zero j), ⟨h2, h3, h4, by decide⟩, Or.inl rfl, ?_, ?_, fun _ _ => rfl, fun _ _ => by show 0 < 256; decide, fun _ _ _ => rfl, fun _ _ _ => rfl, fun h => absurd rfl h⟩
  · intro k k1 k2
    have e : k = 1 ∨ k = 2 ∨ k = 3 := by omega
    rcases e with rfl | rfl | rfl
    · rfl
    · rfl
    · rfl
  · intro c _ _ _
    show (0 : Int32) = ps_i (bt 0 _)
    rw [b_0]
    rfl
theorem i_vc0 (k0 : Int32) (k1 : Int32) (k2 : Int32) (k3 : Int32) : wpX_init (fun u => wpY_init (fun v => i_Rel 4 u v) k0 k1 k2 k3) k0 k1 k2 k3 := by
  obtain ⟨ml, _, b0, x0, y0⟩ := px_clampv k0 2 8 (by decide) (by decide)
  obtain ⟨kw, _, b1, x1, y1⟩ := px_clampv k1 1 99 (by decide) (by decide)
  obtain ⟨hw, _, b2, x2, y2⟩ := px_clampv k2 1 99 (by decide) (by decide)
  obtain ⟨aw, _, b3, x3, y3⟩ := px_clampv k3 1 99 (by decide) (by decide)
  refine x0 _ (x1 _ (x2 _ (x3 _ ?_)))
  refine y0 _ _ _ _ _ _ _ _ _ _ _ _ _ (y1 _ _ _ _ _ _ _ _ _ _ _ _ _ (nm_e (y2 _ _ _ _ _ _ _ _ _ _ _ _ _ (nm_e (y3 _ _ _ _ _ _ _ _ _ _ _ _ _ (nm_e ?_))))))
  exact ⟨fun _ => 0, fun _ => 0, fun _ => 0, ml, kw, hw, aw, 0, 0, 0, 0, 0, 0, fun _ => 0, fun _ => 0, _, fun _ => 0, fun _ => 0, rfl, rfl, ps_iv0 b0 b1 b2 b3⟩
section
variable {ml kw hw aw tc lc rc ck : Nat} {xd xe : Int32} {T L S : Nat → Nat} {aS bS bW bH bK : Nat → Int32}
theorem ps_iv_lock {c : Nat} (h : ps_iv T L S ml kw hw aw tc lc rc ck xd xe aS bS bW bH) (hd : xd = 0) (hc : ps_fc c) (hl : lc < ml) : ps_iv (ps_up T tc c) (ps_up L lc c) S ml kw hw aw (tc + 1) (lc + 1) (rc + 1) ck xd xe aS bS bW bH := by
  obtain ⟨⟨ok, lk, dp, a1, a2, a3, a4⟩, hL, hn, hx, hW, hH, hB, hb, hz, h0, hS⟩ := h
  have c2 := hc.2.1
  refine ⟨⟨ps_ok_up ok (by omega) (fun q => by omega), ?_, ?_, by omega, a2, by omega, by omega⟩, ?_, hn, Or.inl hd, hW, hH, hB, hb, ?_, h0, fun q => absurd hd q⟩
  · rw [ps_lk_up, if_pos c2, lk]
  · rw [ps_dp_up, if_pos c2, dp]
  · intro j hj
    by_cases e : j = lc
    · rw [e, ps_up_s]
      exact hc
    · rw [ps_up_n e]
      exact hL j (by omega)
  · exact fun j a b => h0 hd j b
theorem ps_iv_join {k n : Nat} (h : ps_iv T L S ml kw hw aw tc lc rc ck xd xe aS bS bW bH) (hd : xd = 0) (h1 : 1 ≤ k) (h2 : k ≤ n) (h3 : 2 ≤ n) (h4 : n ≤ 8) (h5 : n ≤ rc) : ps_iv (ps_up T tc (256 + (k - 1) * 8 + (n - 1))) L S ml kw hw aw (tc + 1) lc (rc - n + 1) ck xd xe aS bS bW bH := by
  obtain ⟨⟨ok, lk, dp, a1, a2, a3, a4⟩, hL, hn, hx, hW, hH, hB, hb, hz, h0, hS⟩ := h
  have e : (256 + (k - 1) * 8 + (n - 1) - 256) % 8 = n - 1 := by omega
  refine ⟨⟨ps_ok_up ok (by omega) (fun q => by rw [e, dp]; omega), ?_, ?_, a1, a2, by omega, by omega⟩, hL, hn, Or.inl hd, hW, hH, hB, hb, hz, h0, fun q => absurd hd q⟩
  · rw [ps_lk_up, if_neg (by omega), lk]
  · rw [ps_dp_up, if_neg (by omega), dp, e]
    omega
theorem ps_fs0 (j : Nat) : ps_fs L 0 j = 0 := by
  rw [ps_fs, Nat.zero_div, if_neg (by decide)]
theorem ps_iv_seal {a : Nat → Int32} (h : ps_iv T L S ml kw hw aw tc lc rc ck xd xe aS bS bW bH) (hd : xd = 0) (hr : rc = 1) (ha : ∀ j, j < lc → a j = nI (ps_fs L 0 j)) : ps_iv T L S ml kw hw aw tc lc rc ck 1 xe a bS bW bH := by
  obtain ⟨⟨ok, lk, dp, a1, a2, a3, a4⟩, hL, hn, hx, hW, hH, hB, hb, hz, h0, hS⟩ := h
  refine ⟨⟨ok, lk, dp, a1, a2, a3, a4⟩, hL, hn, Or.inr ⟨rfl, hr⟩, hW, hH, hB, hb, hz, fun q => absurd q (by decide), fun _ j hj => ?_⟩
  rw [ha j hj, ps_fs0, h0 hd j (by omega)]
theorem ps_iv_reopen {b : Nat → Int32} (h : ps_iv T L S ml kw hw aw tc lc rc ck xd xe aS bS bW bH) (hb0 : ∀ j, j < 8 → b j = 0) : ps_iv T L (fun _ => 0) ml kw hw aw 0 0 0 ck 0 xe aS b bW bH := by
  obtain ⟨⟨ok, lk, dp, a1, a2, a3, a4⟩, hL, hn, hx, hW, hH, hB, hb, hz, h0, hS⟩ := h
  exact ⟨⟨fun i h => absurd h (Nat.not_lt_zero i), rfl, rfl, Nat.zero_le _, a2, Nat.le_refl 0, Nat.zero_le _⟩, fun j h => absurd h (Nat.not_lt_zero j), hn, Or.inl rfl, hW, hH, hb0, fun _ _ => by show 0 < 256; decide, fun _ _ _ => rfl, fun _ _ _ => rfl, fun h => absurd rfl h⟩
theorem ps_iv_time {t : Nat} (h : ps_iv T L S ml kw hw aw tc lc rc ck xd xe aS bS bW bH) (ht : t < 64) : ps_iv T L S ml kw hw aw tc lc rc t xd xe aS bS bW bH := by
  obtain ⟨a, hL, ⟨n1, n2, n3, n4⟩, r⟩ := h
  exact ⟨a, hL, ⟨n1, n2, n3, ht⟩, r⟩
theorem ps_iv_wit {m : Nat} {a b : Nat → Int32} (h : ps_iv T L S ml kw hw aw tc lc rc ck xd xe aS bS bW bH) (hd : ¬ xd = 0) (hm : m < 2 ^ lc) (ha : ∀ j, j < lc → a j = nI (ps_fs L m j)) (hb' : ∀ j, j < 8 → b j = nI (ps_fs L m j)) : ps_iv T L (ps_fs L m) ml kw hw aw tc lc rc ck xd xe a b bW bH := by
  obtain ⟨⟨ok, lk, dp, a1, a2, a3, a4⟩, hL, hn, hx, hW, hH, hB, hb, hz, h0, hS⟩ := h
  have z : ∀ j, lc ≤ j → ps_fs L m j = 0 := fun j hj => by rw [ps_fs, ps_hi hm hj, if_neg (by decide)]
  refine ⟨⟨ok, lk, dp, a1, a2, a3, a4⟩, hL, hn, hx, hW, hH, hb', ?_, fun j a _ => z j a, fun q => absurd q hd, fun _ => ha⟩
  intro j hj
  by_cases q : j < lc
  · unfold ps_fs
    split
    · exact (hL j q).2.1
    · decide
  · rw [z j (by omega)]
    decide
theorem ps_iv_put {i c : Nat} (h : ps_iv T L S ml kw hw aw tc lc rc ck xd xe aS bS bW bH) (hd : ¬ xd = 0) (hi : i < lc) (hc : c < 256) : ps_iv T L (ps_up S i c) ml kw hw aw tc lc rc ck xd xe (upd aS i (nI c)) (upd bS i (nI c)) bW bH := by
  obtain ⟨⟨ok, lk, dp, a1, a2, a3, a4⟩, hL, hn, hx, hW, hH, hB, hb, hz, h0, hS⟩ := h
  refine ⟨⟨ok, lk, dp, a1, a2, a3, a4⟩, hL, hn, hx, hW, hH, ?_, ?_, ?_, fun q => absurd q hd, fun _ => ?_⟩
  · intro j hj
    by_cases e : j = i
    · rw [e, pk_us, ps_up_s]
    · rw [pk_un e, ps_up_n e]
      exact hB j hj
  · intro j hj
    by_cases e : j = i
    · rw [e, ps_up_s]
      exact hc
    · rw [ps_up_n e]
      exact hb j hj
  · intro j p q
    rw [ps_up_n (by omega)]
    exact hz j p q
  · intro j hj
    by_cases e : j = i
    · rw [e, pk_us, ps_up_s]
    · rw [pk_un e, ps_up_n e]
      exact hS hd j hj
theorem ps_iv_hold {c : Nat} {e' : Int32} {b : Bool} (h : ps_iv T L S ml kw hw aw tc lc rc ck xd xe aS bS bW bH) (a : 64 ≤ c) (a2 : c < 192) (a3 : c % 64 < 8) (h1 : ps_hd e' c = b) (h2 : ∀ c', 64 ≤ c' → c' < 192 → c' % 64 < 8 → ¬ c' = c → ps_hd e' c' = ps_hd xe c') : ps_iv T L S ml kw hw aw tc lc rc ck xd e' aS bS bW (upd bH c (ps_i b)) := by
  obtain ⟨p1, hL, hn, hx, hW, hH, r⟩ := h
  refine ⟨p1, hL, hn, hx, hW, ?_, r⟩
  intro c' q1 q2 q3
  by_cases e : c' = c
  · rw [e, pk_us, h1]
  · rw [pk_un e, h2 c' q1 q2 q3 e]
    exact hH c' q1 q2 q3
end
end
section
theorem i_vc_lock {k : Nat} {u : SX} {v : SY} (I : i_Rel k u v) (hk : k + 4 ≤ 2052) (v1 : Int32) (v2 : Int32) : wpX_lock (fun r u' => wpY_lock (fun r' v' => r' = r ∧ i_Rel (k + 4) u' v') v v1 v2) u v1 v2 := by
  have J : i_Rel (k + 4) u v := I
  obtain ⟨T, L, S, ml, kw, hw, aw, tc, lc, rc, ck, xd, xe, aS, bS, bW, bH, bK, rfl, rfl, hv⟩ := I
  obtain ⟨⟨ok, lk, dp, a1, a2, a3, a4⟩, -⟩ := id hv
  by_cases hd : xd = 0
  · refine br_t hd ?_
    rcases px_fit v1 v2 with ⟨c, fc, rfl, rfl, fX, fY⟩ | ⟨fX, fY⟩
    · refine fX _ (br_f (by decide) (pk_lt lc ml (fun q => ?_) (fun q => ?_)))
      · refine px_code ⟨vp_in_nI (by omega) (by omega), nm_r (px_upd (by omega)) (nm_r (nI_1 lc) (nm_r (nI_1 rc) (px_append (by omega) ?_)))⟩
        refine br_t hd (fY _ _ _ _ _ _ _ _ _ _ _ _ _ (br_f (by decide) (br_t (nI_lt q (by omega)) (nm_r (nI_1 tc) ⟨vp_in_nI (by omega) (by omega), nm_r (e' := fun j => nI (ps_up T tc c j)) ?_ (nm_r (nI_1 lc) ⟨vp_in_nI (by omega) (by omega), nm_r (e' := fun j => nI (ps_up L lc c j)) ?_ (nm_r (nI_1 rc) ⟨nI_pred lc, ?_⟩)⟩)⟩))))
        · rw [px_cd]
          exact px_upd (by omega)
        · rw [px_cd]
          exact px_upd (by omega)
        · exact ⟨ps_up T tc c, ps_up L lc c, S, ml, kw, hw, aw, tc + 1, lc + 1, rc + 1, ck, xd, xe, aS, bS, bW, bH, bK, rfl, rfl, ps_iv_lock hv hd fc q⟩
      · exact br_t hd (fY _ _ _ _ _ _ _ _ _ _ _ _ _ (br_f (by decide) (br_f (nI_nlt q (by omega)) ⟨rfl, J⟩)))
    · exact fX _ (br_t rfl (br_t hd (fY _ _ _ _ _ _ _ _ _ _ _ _ _ (br_t rfl ⟨rfl, J⟩))))
  · exact br_f hd (br_f hd ⟨rfl, J⟩)
theorem i_vc_join {k : Nat} {u : SX} {v : SY} (I : i_Rel k u v) (hk : k + 4 ≤ 2052) (v1 : Int32) (v2 : Int32) : wpX_join (fun r u' => wpY_join (fun r' v' => r' = r ∧ i_Rel (k + 4) u' v') v v1 v2) u v1 v2 := by
  have J : i_Rel (k + 4) u v := I
  obtain ⟨T, L, S, ml, kw, hw, aw, tc, lc, rc, ck, xd, xe, aS, bS, bW, bH, bK, rfl, rfl, hv⟩ := I
  obtain ⟨⟨ok, lk, dp, a1, a2, a3, a4⟩, -⟩ := id hv
  by_cases hd : xd = 0
  · refine br_t hd ?_
    by_cases n1 : v2 < 2
    · exact br_t n1 (br_t hd (br_t n1 ⟨rfl, J⟩))
    by_cases n2 : 8 < v2
    · exact br_f n1 (br_t n2 (br_t hd (br_f n1 (br_t n2 ⟨rfl, J⟩))))
    by_cases n3 : v1 < 1
    · exact br_f n1 (br_f n2 (br_t n3 (br_t hd (br_f n1 (br_f n2 (br_t n3 ⟨rfl, J⟩))))))
    by_cases n4 : v1 ≤ v2
    · have z2 : ¬ v2 < 0 := fun q => n1 (Int32.lt_trans q (by decide))
      have z1 : ¬ v1 < 0 := fun q => n3 (Int32.lt_trans q (by decide))
      obtain ⟨n, hn, rfl⟩ := nI_of z2
      obtain ⟨m, hm, rfl⟩ := nI_of z1
      have n1' : ¬ n < 2 := fun q => n1 (nI_lt (b := 2) q (by decide))
      have n2' : ¬ 8 < n := fun q => n2 (nI_lt (a := 8) q hn)
      have n3' : ¬ m < 1 := fun q => n3 (nI_lt (b := 1) q (by decide))
      have n4' : m ≤ n := (nI_leI hm hn).mp n4
      have ec : (256 + (nI m - 1) * 8) + (nI n - 1) = nI (256 + (m - 1) * 8 + (n - 1)) := by
        have e1 : nI m - 1 = nI (m - 1) := pk_sub (b := 1) (by omega)
        have e2 : nI n - 1 = nI (n - 1) := pk_sub (b := 1) (by omega)
        have e3 : nI (m - 1) * 8 = nI ((m - 1) * 8) := pk_mul _ 8
        have e4 : 256 + nI ((m - 1) * 8) = nI (256 + (m - 1) * 8) := nI_add 256 _
        rw [e1, e2, e3, e4, nI_add]
      have er : n ≤ rc → (nI rc - nI n) + 1 = nI (rc - n + 1) := fun q => by rw [pk_sub q, nI_1]
      refine br_f n1 (br_f n2 (br_f n3 (br_t n4 (pk_le n rc (fun q => ?_) (fun q => ?_)))))
      · rw [ec]
        refine px_append (by omega) (nm_r (er q) ?_)
        refine br_t hd (br_f n1 (br_f n2 (br_f n3 (br_t n4 (br_t (nI_le q (by omega)) (nm_r (nI_1 tc) ⟨vp_in_nI (by omega) (by omega), nm_r (e' := fun j => nI (ps_up T tc (256 + (m - 1) * 8 + (n - 1)) j)) ?_ (nm_r (er q) ⟨rfl, ?_⟩)⟩))))))
        · rw [ec]
          exact px_upd (by omega)
        · exact ⟨_, L, S, ml, kw, hw, aw, tc + 1, lc, rc - n + 1, ck, xd, xe, aS, bS, bW, bH, bK, rfl, rfl, ps_iv_join hv hd (by omega) n4' (by omega) (by omega) q⟩
      · exact br_t hd (br_f n1 (br_f n2 (br_f n3 (br_t n4 (br_f (nI_ge q hn) ⟨rfl, J⟩)))))
    · exact br_f n1 (br_f n2 (br_f n3 (br_f n4 (br_t hd (br_f n1 (br_f n2 (br_f n3 (br_f n4 ⟨rfl, J⟩))))))))
  · exact br_f hd (br_f hd ⟨rfl, J⟩)
theorem i_vc_seal {k : Nat} {u : SX} {v : SY} (I : i_Rel k u v) (hk : k + 4 ≤ 2052) : wpX_seal (fun r u' => wpY_seal (fun r' v' => r' = r ∧ i_Rel (k + 4) u' v') v) u := by
  have J : i_Rel (k + 4) u v := I
  obtain ⟨T, L, S, ml, kw, hw, aw, tc, lc, rc, ck, xd, xe, aS, bS, bW, bH, bK, rfl, rfl, hv⟩ := I
  obtain ⟨⟨ok, lk, dp, a1, a2, a3, a4⟩, hL, -⟩ := id hv
  have h8 := Nat.lt_of_lt_of_le (ps_mk_lt (fun i => decide (¬ L i / 64 = 1)) lc) (ps_p8 (show lc ≤ 8 by omega))
  by_cases hd : xd = 0
  · refine br_t hd (pk_eq rc 1 (fun q => ?_) (fun q => ?_))
    · refine px_fill (s := 0) (by omega) (by decide) (fun a ha => px_keyless (by omega) hL (px_true ok (by omega) a4 h8 ?_))
      have R : ∀ K : Nat → Int32, i_Rel (k + 4) (nI ml, nI kw, nI hw, nI aw, nI tc, nI lc, nI rc, 1, xe, nI ck, (fun j => nI (T j)), (fun j => nI (L j)), a) (nI tc, nI lc, nI rc, nI ck, nI ml, 1, (fun j => nI (T j)), (fun j => nI (L j)), bS, bW, bH, K) := fun K => ⟨T, L, S, ml, kw, hw, aw, tc, lc, rc, ck, 1, xe, a, bS, bW, bH, K, rfl, rfl, ps_iv_seal hv hd q ha⟩
      have g : ∀ r : Int32, r = ps_i (!ps_tr T tc (ps_mk (fun i => decide (¬ L i / 64 = 1)) lc)) → wpY_seal (fun r' v' => r' = r ∧ i_Rel (k + 4) (nI ml, nI kw, nI hw, nI aw, nI tc, nI lc, nI rc, 1, xe, nI ck, (fun j => nI (T j)), (fun j => nI (L j)), a) v') (nI tc, nI lc, nI rc, nI ck, nI ml, xd, (fun j => nI (T j)), (fun j => nI (L j)), bS, bW, bH, bK) := by
        intro r hr
        refine br_t hd (br_t (by rw [q]; rfl) ⟨lc + 1, py_kloop ok (by omega) (by omega) a4 (by omega) hL (fun K => ⟨hr.symm, R K⟩) lc 0 (Nat.zero_add _)⟩)
      by_cases c : ps_tr T tc (ps_mk (fun i => decide (¬ L i / 64 = 1)) lc) = true
      · rw [c] at g ⊢
        exact br_f (by decide) (g 0 rfl)
      · rw [ps_nf c] at g ⊢
        exact br_t (by decide) (g 1 rfl)
    · exact br_t hd (br_f (fun z => q ((nI_eq (b := 1) (by omega) (by decide)).mp z)) ⟨rfl, J⟩)
  · exact br_f hd (br_f hd ⟨rfl, J⟩)
theorem i_vc_reopen {k : Nat} {u : SX} {v : SY} (I : i_Rel k u v) (hk : k + 4 ≤ 2052) : wpX_reopen (fun u' => wpY_reopen (fun v' => i_Rel (k + 4) u' v') v) u := by
  obtain ⟨T, L, S, ml, kw, hw, aw, tc, lc, rc, ck, xd, xe, aS, bS, bW, bH, bK, rfl, rfl, hv⟩ := I
  exact ⟨9, py_oloop (tc := 0) (lc := 0) (rc := 0) (fun b hb => ⟨T, L, fun _ => 0, ml, kw, hw, aw, 0, 0, 0, ck, 0, xe, aS, b, bW, bH, bK, rfl, rfl, ps_iv_reopen hv hb⟩) 8 0 bS rfl (fun j h => absurd h (Nat.not_lt_zero j))⟩
end
section
theorem px_bz (v : Int32) : ∃ b : Bool, lw_bz v = ps_i b := by
  rcases lw_bz_01 v with h | h
  · exact ⟨false, h⟩
  · exact ⟨true, h⟩
theorem ps_i_inj {a b : Bool} : ps_i a = ps_i b ↔ a = b := by cases a <;> cases b <;> decide
theorem i_vc_hold {k : Nat} {u : SX} {v : SY} (I : i_Rel k u v) (hk : k + 4 ≤ 2052) (v1 : Int32) (v2 : Int32) (v3 : Int32) : wpX_hold (fun r u' => wpY_hold (fun r' v' => r' = r ∧ i_Rel (k + 4) u' v') v v1 v2 (lw_bz v3)) u v1 v2 (lw_bz v3) := by
  have J : i_Rel (k + 4) u v := I
  obtain ⟨T, L, S, ml, kw, hw, aw, tc, lc, rc, ck, xd, xe, aS, bS, bW, bH, bK, rfl, rfl, hv⟩ := I
  obtain ⟨⟨ok, lk, dp, a1, a2, a3, a4⟩, hL, hn, hx, hW, hH, -⟩ := id hv
  obtain ⟨b, eb⟩ := px_bz v3
  rw [eb]
  rcases px_secret v1 v2 with ⟨c, c1, c2, c3, rfl, rfl, fX, fY⟩ | ⟨fX, fY⟩
  · have hc := hH c c1 c2 c3
    refine fX _ (br_f (by decide) (px_held c1 c2 c3 ?_))
    have g : ∀ (r : Int32) (e' : Int32), r = ps_i (ps_hd xe c ^^ b) → ps_hd e' c = b → (∀ c', 64 ≤ c' → c' < 192 → c' % 64 < 8 → ¬ c' = c → ps_hd e' c' = ps_hd xe c') →
        wpY_hold (fun r' v' => r' = r ∧ i_Rel (k + 4) (nI ml, nI kw, nI hw, nI aw, nI tc, nI lc, nI rc, xd, e', nI ck, (fun j => nI (T j)), (fun j => nI (L j)), aS) v') (nI tc, nI lc, nI rc, nI ck, nI ml, xd, (fun j => nI (T j)), (fun j => nI (L j)), bS, bW, bH, bK) (nI (c / 64)) (nI (c % 64)) (ps_i b) := by
      intro r e' hr h1 h2
      have R : i_Rel (k + 4) (nI ml, nI kw, nI hw, nI aw, nI tc, nI lc, nI rc, xd, e', nI ck, (fun j => nI (T j)), (fun j => nI (L j)), aS) (nI tc, nI lc, nI rc, nI ck, nI ml, xd, (fun j => nI (T j)), (fun j => nI (L j)), bS, bW, upd bH c (ps_i b), bK) := ⟨T, L, S, ml, kw, hw, aw, tc, lc, rc, ck, xd, e', aS, bS, bW, upd bH c (ps_i b), bK, rfl, rfl, ps_iv_hold hv c1 c2 c3 h1 h2⟩
      refine fY _ _ _ _ _ _ _ _ _ _ _ _ _ (br_f (by decide) ?_)
      rw [px_cd, nI_clamp (by omega), ps_vb, hc]
      refine ⟨vp_in_nI (by omega) (by omega), nm_e ⟨vp_in_nI (by omega) (by omega), nm_e ?_⟩⟩
      refine ek_if ps_i_inj (fun q => ⟨?_, R⟩) (fun q => ⟨?_, R⟩)
      · rw [hr, q, Bool.xor_self]
        rfl
      · rw [hr]
        revert q
        cases ps_hd xe c <;> cases b <;> first | (intro _; rfl) | (intro q; exact absurd rfl q)
    refine ek_if ps_i_inj (fun q => ?_) (fun q => ?_)
    · exact g 0 xe (by rw [q, Bool.xor_self]; rfl) q (fun _ _ _ _ _ => rfl)
    · refine nm_r (e' := xe ^^^ ((1 : Int32) <<< (nI ((c / 64 - 1) * 8 + c % 64) &&& 31))) (by rw [px_kn c1]) (g 1 _ ?_ ?_ ?_)
      · revert q
        cases ps_hd xe c <;> cases b <;> first | (intro _; rfl) | (intro q; exact absurd rfl q)
      · rw [ps_hd_flip c1 c2 c3 c1 c2 c3, decide_eq_true rfl]
        revert q
        cases ps_hd xe c <;> cases b <;> first | (intro _; rfl) | (intro q; exact absurd rfl q)
      · intro c' p1 p2 p3 ne
        rw [ps_hd_flip c1 c2 c3 p1 p2 p3, decide_eq_false ne, Bool.xor_false]
  · exact fX _ (br_t rfl (fY _ _ _ _ _ _ _ _ _ _ _ _ _ (br_t rfl ⟨rfl, J⟩)))
theorem i_vc_holds {k : Nat} {u : SX} {v : SY} (I : i_Rel k u v) (hk : k + 4 ≤ 2052) (v1 : Int32) (v2 : Int32) : wpX_holds (fun r => wpY_holds (fun r' => r' = r ∧ i_Rel (k + 4) u v) v v1 v2) u v1 v2 := by
  have J : i_Rel (k + 4) u v := I
  obtain ⟨T, L, S, ml, kw, hw, aw, tc, lc, rc, ck, xd, xe, aS, bS, bW, bH, bK, rfl, rfl, hv⟩ := I
  obtain ⟨⟨ok, lk, dp, a1, a2, a3, a4⟩, hL, hn, hx, hW, hH, -⟩ := id hv
  rcases px_secret v1 v2 with ⟨c, c1, c2, c3, rfl, rfl, fX, fY⟩ | ⟨fX, fY⟩
  · have hc := hH c c1 c2 c3
    refine fX _ (br_f (by decide) (px_held c1 c2 c3 ?_))
    refine ek_if (ps_i0 _) (fun q => ?_) (fun q => ?_)
    · refine fY _ _ _ _ _ _ _ _ _ _ _ _ _ (br_f (by decide) ?_)
      rw [px_cd, nI_clamp (by omega), hc]
      exact ⟨vp_in_nI (by omega) (by omega), br_t ((ps_i0 _).mpr q) ⟨rfl, J⟩⟩
    · refine fY _ _ _ _ _ _ _ _ _ _ _ _ _ (br_f (by decide) ?_)
      rw [px_cd, nI_clamp (by omega), hc]
      exact ⟨vp_in_nI (by omega) (by omega), br_f (fun z => q ((ps_i0 _).mp z)) ⟨rfl, J⟩⟩
  · exact fX _ (br_t rfl (fY _ _ _ _ _ _ _ _ _ _ _ _ _ (br_t rfl ⟨rfl, J⟩)))
theorem i_vc_setTime {k : Nat} {u : SX} {v : SY} (I : i_Rel k u v) (hk : k + 4 ≤ 2052) (v1 : Int32) : wpX_setTime (fun r u' => wpY_setTime (fun r' v' => r' = r ∧ i_Rel (k + 4) u' v') v v1) u v1 := by
  have J : i_Rel (k + 4) u v := I
  obtain ⟨T, L, S, ml, kw, hw, aw, tc, lc, rc, ck, xd, xe, aS, bS, bW, bH, bK, rfl, rfl, hv⟩ := I
  by_cases h1 : v1 < 0
  · exact br_t h1 (br_t h1 ⟨rfl, J⟩)
  by_cases h2 : v1 ≤ 63
  · obtain ⟨j, hj, rfl⟩ := nI_of h1
    have h3 := (nI_leI (b := 63) hj (by decide)).mp h2
    exact br_f h1 (br_t h2 (br_f h1 (br_t h2 ⟨rfl, T, L, S, ml, kw, hw, aw, tc, lc, rc, j, xd, xe, aS, bS, bW, bH, bK, rfl, rfl, ps_iv_time hv (by omega)⟩)))
  · exact br_f h1 (br_f h2 (br_f h1 (br_f h2 ⟨rfl, J⟩)))
theorem i_vc_satisfy {k : Nat} {u : SX} {v : SY} (I : i_Rel k u v) (hk : k + 4 ≤ 2052) : wpX_satisfy (fun r u' => wpY_satisfy (fun r' v' => r' = r ∧ i_Rel (k + 4) u' v') v) u := by
  have J : i_Rel (k + 4) u v := I
  obtain ⟨T, L, S, ml, kw, hw, aw, tc, lc, rc, ck, xd, xe, aS, bS, bW, bH, bK, rfl, rfl, hv⟩ := I
  obtain ⟨⟨ok, lk, dp, a1, a2, a3, a4⟩, hL, ⟨w1, w2, w3, ht⟩, hx, hW, hH, -⟩ := id hv
  have hl8 : lc ≤ 8 := by omega
  have h8 := ps_p8 hl8
  by_cases hd : xd = 0
  · exact br_t hd (py_owners hl8 ht hL hH (br_t hd ⟨rfl, J⟩))
  · have hr : rc = 1 := by
      rcases hx with q | q
      · exact absurd q hd
      · exact q.2
    have hm := ps_bs_in (fun s => ps_sb s (ps_mk (ps_ow L xe ck) lc) && ps_tr T tc s) (fun s => ps_wt (ps_w kw hw aw) L s lc) (2 ^ lc)
    have p0 := ps_p0 lc
    have hm2 : ps_bs (fun s => ps_sb s (ps_mk (ps_ow L xe ck) lc) && ps_tr T tc s) (fun s => ps_wt (ps_w kw hw aw) L s lc) (2 ^ lc) < 2 ^ lc := by
      rcases hm with q | q
      · omega
      · exact q.1
    have Y : ∀ (r : Int32) (u' : SX), (ps_bs (fun s => ps_sb s (ps_mk (ps_ow L xe ck) lc) && ps_tr T tc s) (fun s => ps_wt (ps_w kw hw aw) L s lc) (2 ^ lc) = 0 → (-1 : Int32) = r ∧ ∀ K : Nat → Int32, i_Rel (k + 4) u' (nI tc, nI lc, nI rc, nI ck, nI ml, xd, (fun j => nI (T j)), (fun j => nI (L j)), bS, bW, bH, K)) →
        (¬ ps_bs (fun s => ps_sb s (ps_mk (ps_ow L xe ck) lc) && ps_tr T tc s) (fun s => ps_wt (ps_w kw hw aw) L s lc) (2 ^ lc) = 0 → nI (ps_wt (ps_w kw hw aw) L (ps_bs (fun s => ps_sb s (ps_mk (ps_ow L xe ck) lc) && ps_tr T tc s) (fun s => ps_wt (ps_w kw hw aw) L s lc) (2 ^ lc)) lc) = r ∧ ∀ b K : Nat → Int32, (∀ j, j < 8 → b j = nI (ps_fs L (ps_bs (fun s => ps_sb s (ps_mk (ps_ow L xe ck) lc) && ps_tr T tc s) (fun s => ps_wt (ps_w kw hw aw) L s lc) (2 ^ lc)) j)) → i_Rel (k + 4) u' (nI tc, nI lc, nI rc, nI ck, nI ml, xd, (fun j => nI (T j)), (fun j => nI (L j)), b, bW, bH, K)) →
        wpY_satisfy (fun r' v' => r' = r ∧ i_Rel (k + 4) u' v') (nI tc, nI lc, nI rc, nI ck, nI ml, xd, (fun j => nI (T j)), (fun j => nI (L j)), bS, bW, bH, bK) := by
      intro r u' q0 q1
      exact py_owners hl8 ht hL hH (br_f hd (py_rew ok (by omega) (by omega) a4 hl8 hL hW (ps_w_le w1 w2 w3) (ps_mk_lt _ _) (fun z K => ⟨(q0 z).1, (q0 z).2 K⟩) (fun z b K hb => ⟨(q1 z).1, (q1 z).2 b K hb⟩)))
    refine br_f hd (px_owners hl8 ht hL (px_best ok (by omega) a4 hl8 hL w1 w2 w3 (px_take hl8 (by omega) hL (fun z => ?_) (fun z a ha => ?_))))
    · exact Y _ _ (fun _ => ⟨rfl, fun K => ⟨T, L, S, ml, kw, hw, aw, tc, lc, rc, ck, xd, xe, aS, bS, bW, bH, K, rfl, rfl, hv⟩⟩) (fun q => absurd z q)
    · exact Y _ _ (fun q => absurd q z) (fun _ => ⟨rfl, fun b K hb => ⟨T, L, _, ml, kw, hw, aw, tc, lc, rc, ck, xd, xe, a, b, bW, bH, K, rfl, rfl, ps_iv_wit hv hd hm2 ha hb⟩⟩)
theorem i_vc_malleate {k : Nat} {u : SX} {v : SY} (I : i_Rel k u v) (hk : k + 4 ≤ 2052) : wpX_malleate (fun r u' => wpY_malleate (fun r' v' => r' = r ∧ i_Rel (k + 4) u' v') v) u := by
  have J : i_Rel (k + 4) u v := I
  obtain ⟨T, L, S, ml, kw, hw, aw, tc, lc, rc, ck, xd, xe, aS, bS, bW, bH, bK, rfl, rfl, hv⟩ := I
  obtain ⟨⟨ok, lk, dp, a1, a2, a3, a4⟩, hL, ⟨w1, w2, w3, ht⟩, hx, hW, hH, hB, hb, hz, h0, hS⟩ := id hv
  have hl8 : lc ≤ 8 := by omega
  have h8 := ps_p8 hl8
  by_cases hd : xd = 0
  · exact br_t hd (py_onlook hl8 ht hB hb hz hL (py_filled hl8 hB hb hz (br_t hd ⟨rfl, J⟩)))
  · have hr : rc = 1 := by
      rcases hx with q | q
      · exact absurd q hd
      · exact q.2
    have hb' : ∀ j, j < lc → S j < 256 := fun j hj => hb j (by omega)
    have hf : ps_mk (ps_fl S) lc < 256 := Nat.lt_of_lt_of_le (ps_mk_lt _ _) h8
    generalize eg : ps_gm T tc lc (ps_mk (ps_on L S ck lc) lc) (ps_mk (ps_fl S) lc) = g
    generalize em : ps_bs g (fun s => ps_wt (ps_w kw hw aw) L s lc) (2 ^ lc) = m
    have hm := ps_bs_in g (fun s => ps_wt (ps_w kw hw aw) L s lc) (2 ^ lc)
    have p0 := ps_p0 lc
    rw [em] at hm
    have hm2 : m < 2 ^ lc := by
      rcases hm with q | q
      · omega
      · exact q.1
    have Y : ∀ (r : Int32) (u' : SX), (m = 0 → (-1 : Int32) = r ∧ ∀ K : Nat → Int32, i_Rel (k + 4) u' (nI tc, nI lc, nI rc, nI ck, nI ml, xd, (fun j => nI (T j)), (fun j => nI (L j)), bS, bW, bH, K)) →
        (¬ m = 0 → nI (ps_wt (ps_w kw hw aw) L m lc) = r ∧ ∀ b K : Nat → Int32, (∀ j, j < 8 → b j = nI (ps_fs L m j)) → i_Rel (k + 4) u' (nI tc, nI lc, nI rc, nI ck, nI ml, xd, (fun j => nI (T j)), (fun j => nI (L j)), b, bW, bH, K)) →
        wpY_malleate (fun r' v' => r' = r ∧ i_Rel (k + 4) u' v') (nI tc, nI lc, nI rc, nI ck, nI ml, xd, (fun j => nI (T j)), (fun j => nI (L j)), bS, bW, bH, bK) := by
      intro r u' q0 q1
      refine py_onlook hl8 ht hB hb hz hL (py_filled hl8 hB hb hz (br_f hd (py_rewm ok (by omega) (by omega) a4 hl8 hL hW (ps_w_le w1 w2 w3) (ps_mk_lt _ _) hf ?_ ?_)))
      · rw [eg, em]
        exact fun z K => ⟨(q0 z).1, (q0 z).2 K⟩
      · rw [eg, em]
        exact fun z b K hb => ⟨(q1 z).1, (q1 z).2 b K hb⟩
    refine br_f hd (px_onlook hl8 ht (hS hd) hb' hL (px_filled hl8 (hS hd) hb' (px_bestm ok (by omega) a4 hl8 hL w1 w2 w3 hf ?_)))
    rw [eg, em]
    refine px_take hl8 (by omega) hL (fun z => ?_) (fun z a ha => ?_)
    · exact Y _ _ (fun _ => ⟨rfl, fun K => ⟨T, L, S, ml, kw, hw, aw, tc, lc, rc, ck, xd, xe, aS, bS, bW, bH, K, rfl, rfl, hv⟩⟩) (fun q => absurd z q)
    · exact Y _ _ (fun q => absurd q z) (fun _ => ⟨rfl, fun b K hb => ⟨T, L, _, ml, kw, hw, aw, tc, lc, rc, ck, xd, xe, a, b, bW, bH, K, rfl, rfl, ps_iv_wit hv hd hm2 ha hb⟩⟩)
theorem i_vc_variants {k : Nat} {u : SX} {v : SY} (I : i_Rel k u v) (hk : k + 4 ≤ 2052) : wpX_variants (fun r => wpY_variants (fun r' v' => r' = r ∧ i_Rel (k + 4) u v') v) u := by
  have J : i_Rel (k + 4) u v := I
  obtain ⟨T, L, S, ml, kw, hw, aw, tc, lc, rc, ck, xd, xe, aS, bS, bW, bH, bK, rfl, rfl, hv⟩ := I
  obtain ⟨⟨ok, lk, dp, a1, a2, a3, a4⟩, hL, ⟨w1, w2, w3, ht⟩, hx, hW, hH, hB, hb, hz, h0, hS⟩ := id hv
  have hl8 : lc ≤ 8 := by omega
  have h8 := ps_p8 hl8
  by_cases hd : xd = 0
  · exact br_t hd (py_onlook hl8 ht hB hb hz hL ⟨257, py_vdraft hd ⟨rfl, J⟩ 256 0 rfl⟩)
  · have hr : rc = 1 := by
      rcases hx with q | q
      · exact absurd q hd
      · exact q.2
    have hb' : ∀ j, j < lc → S j < 256 := fun j hj => hb j (by omega)
    have p0 := ps_p0 lc
    refine br_f hd (px_onlook hl8 ht (hS hd) hb' hL ⟨2 ^ lc - 1 + 1, ?_⟩)
    have e1 : ps_ct (fun s => ps_sb s (ps_mk (ps_on L S ck lc) lc) && ps_mn (ps_tr T tc) lc s) 1 = 0 := by
      rw [ps_ctF (by rw [ps_mn, ps_tr0, Bool.false_and, Bool.and_false])]
      rfl
    have z := px_vloop (ml := ml) (kw := kw) (hw := hw) (aw := aw) (rc := rc) (ck := ck) (xd := xd) (xe := xe) (L := L) (aS := aS) (f := ps_mk (ps_on L S ck lc) lc) (post := fun r => wpY_variants (fun r' v' => r' = r ∧ i_Rel (k + 4) (nI ml, nI kw, nI hw, nI aw, nI tc, nI lc, nI rc, xd, xe, nI ck, (fun j => nI (T j)), (fun j => nI (L j)), aS) v') (nI tc, nI lc, nI rc, nI ck, nI ml, xd, (fun j => nI (T j)), (fun j => nI (L j)), bS, bW, bH, bK)) ok (by omega) a4 hl8 ?_ (2 ^ lc - 1) 1 (by omega)
    · rw [e1] at z
      exact z
    · exact py_onlook hl8 ht hB hb hz hL ⟨257, py_vloop hd ok (by omega) (by omega) a4 hl8 (ps_mk_lt _ _) (fun K => ⟨rfl, T, L, S, ml, kw, hw, aw, tc, lc, rc, ck, xd, xe, aS, bS, bW, bH, K, rfl, rfl, hv⟩) 256 0 bK rfl⟩
end
section
theorem i_vc_place {k : Nat} {u : SX} {v : SY} (I : i_Rel k u v) (hk : k + 4 ≤ 2052) (v1 : Int32) (v2 : Int32) (v3 : Int32) : wpX_place (fun r u' => wpY_place (fun r' v' => r' = r ∧ i_Rel (k + 4) u' v') v v1 v2 v3) u v1 v2 v3 := by
  have J : i_Rel (k + 4) u v := I
  obtain ⟨T, L, S, ml, kw, hw, aw, tc, lc, rc, ck, xd, xe, aS, bS, bW, bH, bK, rfl, rfl, hv⟩ := I
  obtain ⟨⟨ok, lk, dp, a1, a2, a3, a4⟩, hL, ⟨w1, w2, w3, ht⟩, hx, hW, hH, hB, hb, hz, h0, hS⟩ := id hv
  have hl8 : lc ≤ 8 := by omega
  by_cases hd : xd = 0
  · exact br_t hd (br_t hd ⟨rfl, J⟩)
  by_cases n1 : v1 < 0
  · exact br_f hd (br_t n1 (br_f hd (br_t n1 ⟨rfl, J⟩)))
  by_cases n2 : v1 < nI lc
  · obtain ⟨i, hi, rfl⟩ := nI_of n1
    have il := (nI_ltI hi (by omega)).mp n2
    have fci := hL i il
    have R : ∀ c, c < 256 → i_Rel (k + 4) (nI ml, nI kw, nI hw, nI aw, nI tc, nI lc, nI rc, xd, xe, nI ck, (fun j => nI (T j)), (fun j => nI (L j)), upd aS i (nI c)) (nI tc, nI lc, nI rc, nI ck, nI ml, xd, (fun j => nI (T j)), (fun j => nI (L j)), upd bS i (nI c), bW, bH, bK) := fun c hc => ⟨T, L, ps_up S i c, ml, kw, hw, aw, tc, lc, rc, ck, xd, xe, upd aS i (nI c), upd bS i (nI c), bW, bH, bK, rfl, rfl, ps_iv_put hv hd il hc⟩
    have Y85 : ∀ (c : Nat) (r : Int32) (u' : SX), c < 256 → r = ps_i (ps_ft L (ps_up S i c) ck i) → i_Rel (k + 4) u' (nI tc, nI lc, nI rc, nI ck, nI ml, xd, (fun j => nI (T j)), (fun j => nI (L j)), upd bS i (nI c), bW, bH, bK) → wY_place_85 (fun r' v' => r' = r ∧ i_Rel (k + 4) u' v') (nI i) (nI c) (nI i) (nI tc) (nI lc) (nI rc) (nI ck) (nI ml) xd (fun j => nI (T j)) (fun j => nI (L j)) bS bW bH bK := by
      intro c r u' hc hr hR
      refine ⟨vp_in_nI (by omega) (by omega), nm_r (e' := upd bS i (nI c)) (by rw [nI_clamp hi]) (py_fits (S := ps_up S i c) il hl8 ht (by rw [pk_us, ps_up_s]) (by rw [ps_up_s]; exact hc) fci ?_)⟩
      refine ek_if (ps_i0 _) (fun q => ⟨?_, hR⟩) (fun q => ⟨?_, hR⟩)
      · rw [hr, q]
        rfl
      · rw [hr, ps_nt q]
        rfl
    refine br_f hd (br_f n1 (br_t n2 ?_))
    by_cases z : v2 = 0
    · have e0 : ps_ft L (ps_up S i 0) ck i = false := by
        rw [ps_ft, ps_up_s, decide_eq_false (by have := fci.1; omega)]
        rfl
      refine br_t z ⟨vp_in_nI (by omega) (by omega), nm_r (e' := upd aS i (nI 0)) (by rw [nI_clamp hi]; rfl) ?_⟩
      refine br_f hd (br_f n1 (br_t n2 (br_t z ?_)))
      exact br_f (by rw [z]; decide) (br_f (by rw [z]; decide) (br_t rfl (br_t z (Y85 0 _ _ (by decide) (by rw [e0]; rfl) (R 0 (by decide))))))
    · refine br_f z ?_
      rcases px_fit v2 v3 with ⟨c, fc, rfl, rfl, fX, fY⟩ | ⟨fX, fY⟩
      · obtain ⟨f1, f2, f3⟩ := fc
        have X65 : ∀ (P : Int32 → SX → Prop), P (ps_i (ps_ft L (ps_up S i c) ck i)) (nI ml, nI kw, nI hw, nI aw, nI tc, nI lc, nI rc, xd, xe, nI ck, (fun j => nI (T j)), (fun j => nI (L j)), upd aS i (nI c)) → wX_place_65 P (nI i) (nI (c / 64)) (nI (c % 64)) (nI ml) (nI kw) (nI hw) (nI aw) (nI tc) (nI lc) (nI rc) xd xe (nI ck) (fun j => nI (T j)) (fun j => nI (L j)) aS := by
          intro P hP
          refine px_code ⟨vp_in_nI (by omega) (by omega), nm_r (e' := upd aS i (nI c)) (by rw [nI_clamp hi]) (px_fits (S := ps_up S i c) il hl8 ht (by rw [pk_us, ps_up_s]) (by rw [ps_up_s]; exact f2) fci ?_)⟩
          by_cases q : ps_ft L (ps_up S i c) ck i = true
          · rw [q] at hP ⊢
            exact br_f (by decide) hP
          · rw [ps_nf q] at hP ⊢
            exact br_t (by decide) hP
        have Y66 : wY_place_66 (fun r' v' => r' = ps_i (ps_ft L (ps_up S i c) ck i) ∧ i_Rel (k + 4) (nI ml, nI kw, nI hw, nI aw, nI tc, nI lc, nI rc, xd, xe, nI ck, (fun j => nI (T j)), (fun j => nI (L j)), upd aS i (nI c)) v') (nI i) (nI (c / 64)) (nI (c % 64)) (nI tc) (nI lc) (nI rc) (nI ck) (nI ml) xd (fun j => nI (T j)) (fun j => nI (L j)) bS bW bH bK := by
          refine br_f z ?_
          rw [px_cd]
          exact Y85 c _ _ f2 rfl (R c f2)
        refine fX _ (br_f (by decide) (pk_eq (c / 64) 3 (fun q => ?_) (fun q => ?_)))
        · refine X65 _ ?_
          refine br_f hd (br_f n1 (br_t n2 (br_f z (fY _ _ _ _ _ _ _ _ _ _ _ _ _ (br_f (by decide) ?_)))))
          refine br_f (by rw [q]; decide) (br_f (by rw [q]; decide) (br_t rfl Y66))
        · have g3 := f3 (by omega)
          have hc := hH c f1 (by omega) g3
          refine px_held f1 (by omega) g3 ?_
          have ys : ∀ (P : Int32 → SY → Prop), (ps_hd xe c = false → P (-1) (nI tc, nI lc, nI rc, nI ck, nI ml, xd, (fun j => nI (T j)), (fun j => nI (L j)), bS, bW, bH, bK)) → (ps_hd xe c = true → wY_place_66 P (nI i) (nI (c / 64)) (nI (c % 64)) (nI tc) (nI lc) (nI rc) (nI ck) (nI ml) xd (fun j => nI (T j)) (fun j => nI (L j)) bS bW bH bK) → wpY_place P (nI tc, nI lc, nI rc, nI ck, nI ml, xd, (fun j => nI (T j)), (fun j => nI (L j)), bS, bW, bH, bK) (nI i) (nI (c / 64)) (nI (c % 64)) := by
            intro P h0 h1
            refine br_f hd (br_f n1 (br_t n2 (br_f z (fY _ _ _ _ _ _ _ _ _ _ _ _ _ (br_f (by decide) ?_)))))
            rcases px_secret (nI (c / 64)) (nI (c % 64)) with ⟨c', -, -, -, -, -, -, sY⟩ | ⟨-, sY⟩
            · refine sY _ _ _ _ _ _ _ _ _ _ _ _ _ (br_f (by decide) ?_)
              rw [px_cd, nI_clamp (by omega), hc]
              exact ⟨vp_in_nI (by omega) (by omega), ek_if (ps_i0 _) h0 (fun q => h1 (ps_nt q))⟩
            · exfalso
              have w := sY (fun r => r = 0) 0 0 0 0 0 0 (fun _ => 0) (fun _ => 0) (fun _ => 0) (fun _ => 0) (fun _ => 0) (fun _ => 0) rfl
              have t1 : ¬ nI (c % 64) < 0 := nI_pos (by omega)
              have t2 : ¬ (7 : Int32) < nI (c % 64) := nI_nlt (a := 7) (b := c % 64) (by omega) (by decide)
              have k12 : c / 64 = 1 ∨ c / 64 = 2 := by omega
              rcases k12 with e | e
              · rw [e] at w
                exact absurd (((w.1 rfl).2 t1).2 t2) (by decide)
              · rw [e] at w
                exact absurd ((((w.2 (by decide)).1 rfl).2 t1).2 t2) (by decide)
          refine ek_if (ps_i0 _) (fun q => ?_) (fun q => ?_)
          · exact ys _ (fun _ => ⟨rfl, J⟩) (fun q2 => absurd (q.symm.trans q2) (by decide))
          · exact X65 _ (ys _ (fun q2 => absurd q2 q) (fun _ => Y66))
      · exact fX _ (br_t rfl (br_f hd (br_f n1 (br_t n2 (br_f z (fY _ _ _ _ _ _ _ _ _ _ _ _ _ (br_t rfl ⟨rfl, J⟩)))))))
  · exact br_f hd (br_f n1 (br_f n2 (br_f hd (br_f n1 (br_f n2 ⟨rfl, J⟩)))))
theorem i_vc_spend {k : Nat} {u : SX} {v : SY} (I : i_Rel k u v) (hk : k + 4 ≤ 2052) : wpX_spend (fun r => wpY_spend (fun r' v' => r' = r ∧ i_Rel (k + 4) u v') v) u := by
  have J : i_Rel (k + 4) u v := I
  obtain ⟨T, L, S, ml, kw, hw, aw, tc, lc, rc, ck, xd, xe, aS, bS, bW, bH, bK, rfl, rfl, hv⟩ := I
  obtain ⟨⟨ok, lk, dp, a1, a2, a3, a4⟩, hL, ⟨w1, w2, w3, ht⟩, hx, hW, hH, hB, hb, hz, h0, hS⟩ := id hv
  have hl8 : lc ≤ 8 := by omega
  by_cases hd : xd = 0
  · exact br_t hd (br_t hd ⟨rfl, J⟩)
  · have hr : rc = 1 := by
      rcases hx with q | q
      · exact absurd q hd
      · exact q.2
    have hb' : ∀ j, j < lc → S j < 256 := fun j hj => hb j (by omega)
    refine px_spend (S := S) hd ok (by omega) a4 hl8 ht (hS hd) hb' hL ?_
    exact br_f hd (py_filled hl8 hB hb hz ⟨9, py_sloop ok (by omega) (by omega) a4 hl8 ht hB hb hz hL (fun K => ⟨rfl, T, L, S, ml, kw, hw, aw, tc, lc, rc, ck, xd, xe, aS, bS, bW, bH, K, rfl, rfl, hv⟩) 8 0 rfl rfl⟩)
theorem i_vc_earliest {k : Nat} {u : SX} {v : SY} (I : i_Rel k u v) (hk : k + 4 ≤ 2052) : wpX_earliest (fun r => wpY_earliest (fun r' v' => r' = r ∧ i_Rel (k + 4) u v') v) u := by
  have J : i_Rel (k + 4) u v := I
  obtain ⟨T, L, S, ml, kw, hw, aw, tc, lc, rc, ck, xd, xe, aS, bS, bW, bH, bK, rfl, rfl, hv⟩ := I
  obtain ⟨⟨ok, lk, dp, a1, a2, a3, a4⟩, hL, ⟨w1, w2, w3, ht⟩, hx, hW, hH, hB, hb, hz, h0, hS⟩ := id hv
  have hl8 : lc ≤ 8 := by omega
  by_cases hd : xd = 0
  · exact br_t hd ⟨65, py_edraft hd hl8 hL hH ⟨rfl, J⟩ 64 0 rfl⟩
  · have hr : rc = 1 := by
      rcases hx with q | q
      · exact absurd q hd
      · exact q.2
    refine br_f hd ⟨65, px_eloop ok (by omega) a4 hl8 hL 64 0 rfl ?_⟩
    exact ⟨65, py_eloop hd ok (by omega) (by omega) a4 hl8 hL hH 64 0 bK rfl (fun K => ⟨rfl, T, L, S, ml, kw, hw, aw, tc, lc, rc, ck, xd, xe, aS, bS, bW, bH, K, rfl, rfl, hv⟩)⟩
theorem i_vc_slot {k : Nat} {u : SX} {v : SY} (I : i_Rel k u v) (hk : k + 4 ≤ 2052) (v1 : Int32) : wpX_slot (fun r => wpY_slot (fun r' => r' = r ∧ i_Rel (k + 4) u v) v v1) u v1 := by
  have J : i_Rel (k + 4) u v := I
  obtain ⟨T, L, S, ml, kw, hw, aw, tc, lc, rc, ck, xd, xe, aS, bS, bW, bH, bK, rfl, rfl, hv⟩ := I
  obtain ⟨⟨ok, lk, dp, a1, a2, a3, a4⟩, hL, ⟨w1, w2, w3, ht⟩, hx, hW, hH, hB, hb, hz, h0, hS⟩ := id hv
  by_cases hd : xd = 0
  · exact br_t hd (br_t hd ⟨rfl, J⟩)
  by_cases n1 : v1 < 0
  · exact br_f hd (br_t n1 (br_f hd (br_t n1 ⟨rfl, J⟩)))
  obtain ⟨i, hi, rfl⟩ := nI_of n1
  refine br_f hd (br_f n1 (pk_lt i lc (fun q => ⟨vp_in_nI (by omega) (by omega), ?_⟩) (fun q => ?_)))
  · refine br_f hd (br_f n1 (br_f (nI_ge q (by omega)) ⟨vp_in_nI (by omega) (by omega), ?_, J⟩))
    rw [nI_clamp hi, hB i (by omega), hS hd i q]
  · exact br_f hd (br_f n1 (br_t (nI_le q hi) ⟨rfl, J⟩))
theorem i_vc_token {k : Nat} {u : SX} {v : SY} (I : i_Rel k u v) (hk : k + 4 ≤ 2052) (v1 : Int32) : wpX_token (fun r => wpY_token (fun r' => r' = r ∧ i_Rel (k + 4) u v) v v1) u v1 := by
  have J : i_Rel (k + 4) u v := I
  obtain ⟨T, L, S, ml, kw, hw, aw, tc, lc, rc, ck, xd, xe, aS, bS, bW, bH, bK, rfl, rfl, hv⟩ := I
  obtain ⟨⟨ok, lk, dp, a1, a2, a3, a4⟩, -⟩ := id hv
  by_cases n1 : v1 < 0
  · exact br_t n1 (br_t n1 ⟨rfl, J⟩)
  obtain ⟨i, hi, rfl⟩ := nI_of n1
  refine br_f n1 (pk_lt i tc (fun q => ⟨vp_in_nI (by omega) (by omega), ?_⟩) (fun q => ?_))
  · exact br_f n1 (br_f (nI_ge q (by omega)) ⟨vp_in_nI (by omega) (by omega), rfl, J⟩)
  · exact br_f n1 (br_t (nI_le q hi) ⟨rfl, J⟩)
theorem i_vc_status {k : Nat} {u : SX} {v : SY} (I : i_Rel k u v) (hk : k + 4 ≤ 2052) : wpX_status (fun r => wpY_status (fun r' => r' = r ∧ i_Rel (k + 4) u v) v) u := by
  have J : i_Rel (k + 4) u v := I
  obtain ⟨T, L, S, ml, kw, hw, aw, tc, lc, rc, ck, xd, xe, aS, bS, bW, bH, bK, rfl, rfl, hv⟩ := I
  by_cases hd : xd = 0
  · exact nm_e (br_t hd (br_t hd ⟨Int32.add_zero _, J⟩))
  · exact nm_e (br_f hd (br_f hd ⟨rfl, J⟩))
end
