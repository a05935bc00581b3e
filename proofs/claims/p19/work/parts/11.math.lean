def ps_le (a b : Nat) : Prop := ∀ i, a / 2 ^ i % 2 ≤ b / 2 ^ i % 2
theorem ps_le_push {a b x y : Nat} (h : ps_le a b) (hb : x ≤ y) (hx : x < 2) (hy : y < 2) : ps_le (2 * a + x) (2 * b + y) := by
  intro i
  cases i with
  | zero =>
    rw [Nat.pow_zero, Nat.div_one, Nat.div_one]
    omega
  | succ i =>
    rw [ps_bS a x i hx, ps_bS b y i hy]
    exact h i
theorem ps_le_drop {a b : Nat} (h : ps_le a b) (n : Nat) : ps_le (a / 2 ^ n) (b / 2 ^ n) := fun i => by
  rw [ps_bD, ps_bD]
  exact h (n + i)
theorem ps_le_cnt {a b : Nat} (h : ps_le a b) (m : Nat) : ps_cnt a m ≤ ps_cnt b m := by
  induction m with
  | zero => exact Nat.le_refl 0
  | succ m ih =>
    show ps_cnt a m + a / 2 ^ m % 2 ≤ ps_cnt b m + b / 2 ^ m % 2
    exact Nat.add_le_add ih (h m)
theorem ps_rv_mono {T : Nat → Nat} {s t : Nat} (h : ps_le s t) : ∀ i, ps_le (ps_rv T s i) (ps_rv T t i) := by
  intro i
  induction i with
  | zero => exact fun _ => Nat.le_refl _
  | succ i ih =>
    by_cases c : T i < 256
    · rw [ps_rvL c, ps_rvL c]
      exact ps_le_push ih (h _) (ps_b2 _) (ps_b2 _)
    · rw [ps_rvJ c, ps_rvJ c]
      have q := ps_le_cnt ih ((T i - 256) % 8 + 1)
      refine ps_le_push (ps_le_drop ih _) ?_ (by split <;> decide) (by split <;> decide)
      by_cases z : (T i - 256) / 8 + 1 ≤ ps_cnt (ps_rv T s i) ((T i - 256) % 8 + 1)
      · rw [if_pos z, if_pos (Nat.le_trans z q)]
        exact Nat.le_refl 1
      · rw [if_neg z]
        exact Nat.zero_le _
theorem ps_tr_mono {T : Nat → Nat} {tc s t : Nat} (hok : ps_ok T tc) (hdp : ps_dp T tc = 1) (h : ps_le s t) (hs : ps_tr T tc s = true) : ps_tr T tc t = true := by
  have a := ps_rv_mono (T := T) h tc 0
  have b := ps_rv_lt (s := t) hok tc (Nat.le_refl _)
  have c : ps_rv T s tc = 1 := of_decide_eq_true hs
  rw [hdp] at b
  rw [Nat.pow_zero, Nat.div_one, Nat.div_one, c] at a
  exact decide_eq_true (by omega)
theorem ps_bs_min (g : Nat → Bool) (w : Nat → Nat) : ∀ m i, 0 < i → i < m → g i = true → ps_bs g w m ≠ 0 ∧ w (ps_bs g w m) ≤ w i := by
  intro m
  induction m with
  | zero => intro i _ h; omega
  | succ m ih =>
    intro i h0 hi hg
    by_cases c : g m = true ∧ (ps_bs g w m = 0 ∨ w m < w (ps_bs g w m))
    · have e : ps_bs g w (m + 1) = m := if_pos c
      rw [e]
      by_cases z : i = m
      · exact ⟨by omega, by rw [z]; exact Nat.le_refl _⟩
      · obtain ⟨a, b⟩ := ih i h0 (by omega) hg
        rcases c.2 with q | q
        · exact absurd q a
        · exact ⟨by omega, by omega⟩
    · have e : ps_bs g w (m + 1) = ps_bs g w m := if_neg c
      rw [e]
      by_cases z : i = m
      · rw [← z] at c ⊢
        have z1 : ¬ ps_bs g w i = 0 := fun q => c ⟨hg, Or.inl q⟩
        have z2 : ¬ w i < w (ps_bs g w i) := fun q => c ⟨hg, Or.inr q⟩
        exact ⟨z1, by omega⟩
      · exact ih i h0 (by omega) hg
theorem pl_btn (n i : Nat) : bt (nI n) i = (decide (i < 32) && n.testBit i) := by
  show (BitVec.ofNat 32 n).getLsbD i = _
  rw [BitVec.getLsbD_ofNat]
theorem ps_tb (n i : Nat) : n.testBit i = decide (n / 2 ^ i % 2 = 1) := Nat.testBit_eq_decide_div_mod_eq
theorem ps_sb_le {s f : Nat} (hs : s < 2 ^ 31) (hf : f < 2 ^ 31) (h : ps_sb s f = true) : ps_le s f := by
  have h' := of_decide_eq_true h
  intro i
  by_cases hi : i < 32
  · have q : bt (nI s &&& (nI f ^^^ (-1))) i = false := by
      rw [h']
      exact b_0 i
    rw [b_and, b_xor, b_m1 i hi, pl_btn, pl_btn, decide_eq_true hi, Bool.true_and, Bool.true_and, ps_tb, ps_tb] at q
    have b1 := ps_b2 (s / 2 ^ i)
    have b2 := ps_b2 (f / 2 ^ i)
    by_cases z : s / 2 ^ i % 2 = 1
    · by_cases z2 : f / 2 ^ i % 2 = 1
      · omega
      · rw [decide_eq_true z, decide_eq_false z2] at q
        exact absurd q (by decide)
    · omega
  · rw [ps_hi hs (show 31 ≤ i by omega)]
    exact Nat.zero_le _
theorem ps_le_sb {s f : Nat} (h : ps_le s f) : ps_sb s f = true := by
  refine decide_eq_true (b_ext fun i hi => ?_)
  rw [b_and, b_xor, b_m1 i hi, b_0, pl_btn, pl_btn, decide_eq_true hi, Bool.true_and, Bool.true_and, ps_tb, ps_tb]
  have q := h i
  by_cases z : s / 2 ^ i % 2 = 1
  · rw [decide_eq_true z, decide_eq_true (by have := ps_b2 (f / 2 ^ i); omega)]
    rfl
  · rw [decide_eq_false z, Bool.false_and]
theorem ps_clr_le : ∀ s, s < 256 → ∀ i, i < 8 → s / 2 ^ i % 2 = 1 → ∀ j, j < 8 → (s - 2 ^ i) / 2 ^ j % 2 = if j = i then 0 else s / 2 ^ j % 2 := by decide +kernel
theorem ps_wt_cl {w L : Nat → Nat} {s i : Nat} (hs : s < 256) (hi : i < 8) (hb : s / 2 ^ i % 2 = 1) : ∀ m, m ≤ 8 → ps_wt w L (s - 2 ^ i) m + (if i < m then w (L i / 64) else 0) = ps_wt w L s m := by
  intro m
  induction m with
  | zero => exact fun _ => rfl
  | succ m ih =>
    intro hm
    have r := ih (by omega)
    have e := ps_clr_le s hs i hi hb m (by omega)
    show ps_wt w L (s - 2 ^ i) m + (if (s - 2 ^ i) / 2 ^ m % 2 = 1 then w (L m / 64) else 0) + _ = ps_wt w L s m + (if s / 2 ^ m % 2 = 1 then w (L m / 64) else 0)
    rw [e]
    by_cases z : m = i
    · subst z
      rw [if_pos rfl, if_neg (by decide), if_pos (by omega), if_pos hb]
      rw [if_neg (by omega)] at r
      omega
    · rw [if_neg z]
      by_cases z2 : i < m
      · rw [if_pos z2] at r
        rw [if_pos (show i < m + 1 by omega)]
        omega
      · rw [if_neg z2] at r
        rw [if_neg (show ¬ i < m + 1 by omega)]
        omega
theorem ps_wt_pos {w L : Nat → Nat} {s : Nat} (hw : ∀ k, 1 ≤ w k) : ∀ m, (∃ i, i < m ∧ s / 2 ^ i % 2 = 1) → 1 ≤ ps_wt w L s m := by
  intro m
  induction m with
  | zero =>
    intro h
    obtain ⟨i, hi, _⟩ := h
    omega
  | succ m ih =>
    intro h
    obtain ⟨i, hi, hb⟩ := h
    show 1 ≤ ps_wt w L s m + (if s / 2 ^ m % 2 = 1 then w (L m / 64) else 0)
    by_cases z : i = m
    · rw [← z, if_pos hb]
      have := hw (L i / 64)
      omega
    · have := ih ⟨i, by omega, hb⟩
      omega
theorem ps_some {s : Nat} : ∀ m, s < 2 ^ m → ¬ s = 0 → ∃ i, i < m ∧ s / 2 ^ i % 2 = 1 := by
  intro m
  induction m with
  | zero =>
    intro h h0
    rw [Nat.pow_zero] at h
    omega
  | succ m ih =>
    intro h h0
    by_cases z : s < 2 ^ m
    · obtain ⟨i, hi, hb⟩ := ih z h0
      exact ⟨i, by omega, hb⟩
    · refine ⟨m, by omega, ?_⟩
      have e : s / 2 ^ m = 1 := by
        rw [Nat.div_eq_iff (ps_p0 m)]
        rw [Nat.pow_succ] at h
        omega
      rw [e]
theorem ps_mk_id {m : Nat} : ∀ n, m < 2 ^ n → ps_mk (fun j => decide (m / 2 ^ j % 2 = 1)) n = m := by
  intro n
  have key : ∀ n, ps_mk (fun j => decide (m / 2 ^ j % 2 = 1)) n = m % 2 ^ n := by
    intro n
    induction n with
    | zero =>
      rw [Nat.pow_zero, Nat.mod_one]
      rfl
    | succ n ih =>
      show ps_mk _ n + (if decide (m / 2 ^ n % 2 = 1) = true then 2 ^ n else 0) = _
      rw [ih, Nat.pow_succ, Nat.mod_mul]
      have b := ps_b2 (m / 2 ^ n)
      by_cases z : m / 2 ^ n % 2 = 1
      · rw [decide_eq_true z, if_pos rfl, z, Nat.mul_one]
      · rw [decide_eq_false z, if_neg (by decide), show m / 2 ^ n % 2 = 0 by omega, Nat.mul_zero]
  intro h
  rw [key, Nat.mod_eq_of_lt h]
theorem ps_mnA_i {P : Nat → Bool} {s : Nat} : ∀ m, (∀ i, i < m → s / 2 ^ i % 2 = 1 → P (s - 2 ^ i) = false) → ps_mnA P s m = true := by
  intro m
  induction m with
  | zero => exact fun _ => rfl
  | succ m ih =>
    intro h
    show (ps_mnA P s m && !(decide (s / 2 ^ m % 2 = 1) && P (s - 2 ^ m))) = true
    rw [ih (fun i hi => h i (by omega))]
    by_cases z : s / 2 ^ m % 2 = 1
    · rw [h m (by omega) z, Bool.and_false]
      rfl
    · rw [decide_eq_false z, Bool.false_and]
      rfl
theorem ps_mnA_e {P : Nat → Bool} {s i : Nat} : ∀ m, ps_mnA P s m = true → i < m → s / 2 ^ i % 2 = 1 → P (s - 2 ^ i) = false := by
  intro m
  induction m with
  | zero => intro _ h; omega
  | succ m ih =>
    intro h hi hb
    have h' : (ps_mnA P s m && !(decide (s / 2 ^ m % 2 = 1) && P (s - 2 ^ m))) = true := h
    rw [Bool.and_eq_true] at h'
    by_cases z : i = m
    · subst z
      have q := h'.2
      rw [decide_eq_true hb, Bool.true_and] at q
      cases e : P (s - 2 ^ i)
      · rfl
      · rw [e] at q
        exact absurd q (by decide)
    · exact ih h'.1 (by omega) hb
theorem ps_best_min {T L : Nat → Nat} {tc lc f : Nat} {w : Nat → Nat} (hlc : lc ≤ 8) (hf : f < 2 ^ lc) (hw : ∀ k, 1 ≤ w k)
    (hm : ¬ ps_bs (fun s => ps_sb s f && ps_tr T tc s) (fun s => ps_wt w L s lc) (2 ^ lc) = 0) :
    ps_mn (ps_tr T tc) lc (ps_bs (fun s => ps_sb s f && ps_tr T tc s) (fun s => ps_wt w L s lc) (2 ^ lc)) = true := by
  have h8 := ps_p8 hlc
  have bi := ps_bs_in (fun s => ps_sb s f && ps_tr T tc s) (fun s => ps_wt w L s lc) (2 ^ lc)
  have mi := ps_bs_min (fun s => ps_sb s f && ps_tr T tc s) (fun s => ps_wt w L s lc) (2 ^ lc)
  generalize ps_bs (fun s => ps_sb s f && ps_tr T tc s) (fun s => ps_wt w L s lc) (2 ^ lc) = m at *
  obtain ⟨b1, b2⟩ : m < 2 ^ lc ∧ (ps_sb m f && ps_tr T tc m) = true := by
    rcases bi with q | q
    · exact absurd q hm
    · exact q
  rw [Bool.and_eq_true] at b2
  have ml := ps_sb_le (by omega) (by omega) b2.1
  unfold ps_mn
  rw [b2.2, Bool.true_and]
  refine ps_mnA_i lc (fun i hi hb => ps_nf fun q => ?_)
  have cl := ps_clr_le m (by omega) i (by omega) hb
  have le : ps_le (m - 2 ^ i) f := by
    intro j
    by_cases hj : j < 8
    · have e := cl j hj
      have z := ml j
      split at e <;> omega
    · rw [ps_hi (show m - 2 ^ i < 2 ^ 8 from Nat.lt_of_le_of_lt (Nat.sub_le _ _) (by omega)) (show 8 ≤ j by omega)]
      exact Nat.zero_le _
  have p0 := ps_p0 i
  have ne : ¬ m - 2 ^ i = 0 := by
    intro z
    rw [z, ps_tr0] at q
    exact absurd q (by decide)
  have g := mi (m - 2 ^ i) (by omega) (by omega) (by rw [ps_le_sb le, q]; rfl)
  have wc := ps_wt_cl (w := w) (L := L) (show m < 256 by omega) (show i < 8 by omega) hb lc hlc
  rw [if_pos hi] at wc
  have := hw (L i / 64)
  have g2 := g.2
  omega
theorem ps_er_le {P : Nat → Bool} : ∀ d t, (∃ e, t ≤ e ∧ e < t + d ∧ P e = true ∧ (∀ q, t ≤ q → q < e → P q = false) ∧ ps_er P d t = nI e) ∨ ((∀ q, t ≤ q → q < t + d → P q = false) ∧ ps_er P d t = -1) := by
  intro d
  induction d with
  | zero =>
    intro t
    exact Or.inr ⟨fun q a b => by omega, rfl⟩
  | succ d ih =>
    intro t
    by_cases c : P t = true
    · exact Or.inl ⟨t, Nat.le_refl _, by omega, c, fun q a b => by omega, ps_erT c⟩
    · have c' := ps_nf c
      rcases ih (t + 1) with ⟨e, a1, a2, a3, a4, a5⟩ | ⟨a1, a2⟩
      · refine Or.inl ⟨e, by omega, by omega, a3, fun q p1 p2 => ?_, by rw [ps_erF c', a5]⟩
        by_cases z : q = t
        · rw [z]
          exact c'
        · exact a4 q (by omega) p2
      · refine Or.inr ⟨fun q p1 p2 => ?_, by rw [ps_erF c', a2]⟩
        by_cases z : q = t
        · rw [z]
          exact c'
        · exact a1 q (by omega) (by omega)
theorem ps_mk_le {p q : Nat → Bool} {n : Nat} (h : ∀ i, i < n → p i = true → q i = true) : ps_le (ps_mk p n) (ps_mk q n) := by
  intro i
  by_cases hi : i < n
  · rw [ps_mk_b n hi, ps_mk_b n hi]
    by_cases z : p i = true
    · rw [if_pos z, if_pos (h i hi z)]
      exact Nat.le_refl 1
    · rw [if_neg z]
      exact Nat.zero_le _
  · rw [ps_hi (ps_mk_lt p n) (show n ≤ i by omega)]
    exact Nat.zero_le _
