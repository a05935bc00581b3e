def ps_mnA (P : Nat → Bool) (s : Nat) : Nat → Bool
  | 0 => true
  | m + 1 => ps_mnA P s m && !(decide (s / 2 ^ m % 2 = 1) && P (s - 2 ^ m))
theorem ps_mnA_f {P : Nat → Bool} {s m : Nat} (h : ps_mnA P s m = false) : ∀ d, ps_mnA P s (m + d) = false := by
  intro d
  induction d with
  | zero => exact h
  | succ d ih =>
    show (ps_mnA P s (m + d) && _) = false
    rw [ih]
    rfl
theorem ps_mnA_le {P : Nat → Bool} {s m j : Nat} (h : ps_mnA P s m = false) (hj : m ≤ j) : ps_mnA P s j = false := by
  have e := ps_mnA_f h (j - m)
  rw [show m + (j - m) = j by omega] at e
  exact e
theorem ps_mnA_hi {P : Nat → Bool} {s m : Nat} (h : s < 2 ^ m) : ∀ d, ps_mnA P s (m + d) = ps_mnA P s m := by
  intro d
  induction d with
  | zero => rfl
  | succ d ih =>
    show (ps_mnA P s (m + d) && !(decide (s / 2 ^ (m + d) % 2 = 1) && P (s - 2 ^ (m + d)))) = _
    rw [ih, ps_hi h (show m ≤ m + d by omega)]
    simp
theorem ps_mnA_8 {P : Nat → Bool} {s m : Nat} (h : s < 2 ^ m) (hm : m ≤ 8) : ps_mnA P s 8 = ps_mnA P s m := by
  have e := ps_mnA_hi (P := P) h (8 - m)
  rw [show m + (8 - m) = 8 by omega] at e
  exact e
def ps_mn (P : Nat → Bool) (m s : Nat) : Bool := P s && ps_mnA P s m
def ps_wt (w L : Nat → Nat) (s : Nat) : Nat → Nat
  | 0 => 0
  | m + 1 => ps_wt w L s m + (if s / 2 ^ m % 2 = 1 then w (L m / 64) else 0)
theorem ps_wt_hi {w L : Nat → Nat} {s m : Nat} (h : s < 2 ^ m) : ∀ d, ps_wt w L s (m + d) = ps_wt w L s m := by
  intro d
  induction d with
  | zero => rfl
  | succ d ih =>
    show ps_wt w L s (m + d) + (if s / 2 ^ (m + d) % 2 = 1 then w (L (m + d) / 64) else 0) = _
    rw [ih, ps_hi h (show m ≤ m + d by omega), if_neg (by decide)]
    rfl
theorem ps_wt_8 {w L : Nat → Nat} {s m : Nat} (h : s < 2 ^ m) (hm : m ≤ 8) : ps_wt w L s 8 = ps_wt w L s m := by
  have e := ps_wt_hi (w := w) (L := L) h (8 - m)
  rw [show m + (8 - m) = 8 by omega] at e
  exact e
theorem ps_wt_le {w L : Nat → Nat} {s : Nat} (hw : ∀ k, w k ≤ 99) : ∀ m, ps_wt w L s m ≤ 99 * m := by
  intro m
  induction m with
  | zero => exact Nat.le_refl 0
  | succ m ih =>
    show ps_wt w L s m + (if s / 2 ^ m % 2 = 1 then w (L m / 64) else 0) ≤ 99 * (m + 1)
    have h := hw (L m / 64)
    split <;> omega
def ps_mk (p : Nat → Bool) : Nat → Nat
  | 0 => 0
  | m + 1 => ps_mk p m + (if p m = true then 2 ^ m else 0)
theorem ps_mkT {p : Nat → Bool} {m : Nat} (h : p m = true) : ps_mk p (m + 1) = ps_mk p m + 2 ^ m := by
  show ps_mk p m + (if p m = true then 2 ^ m else 0) = _
  rw [if_pos h]
theorem ps_mkF {p : Nat → Bool} {m : Nat} (h : p m = false) : ps_mk p (m + 1) = ps_mk p m := by
  show ps_mk p m + (if p m = true then 2 ^ m else 0) = _
  rw [if_neg (by rw [h]; decide)]
  rfl
theorem ps_mk_lt (p : Nat → Bool) (m : Nat) : ps_mk p m < 2 ^ m := by
  induction m with
  | zero => exact Nat.one_pos
  | succ m ih =>
    show ps_mk p m + (if p m = true then 2 ^ m else 0) < 2 ^ (m + 1)
    rw [Nat.pow_succ]
    generalize 2 ^ m = z at *
    split <;> omega
theorem ps_mk_c {p q : Nat → Bool} : ∀ m, (∀ i, i < m → p i = q i) → ps_mk p m = ps_mk q m := by
  intro m
  induction m with
  | zero => exact fun _ => rfl
  | succ m ih =>
    intro h
    show ps_mk p m + (if p m = true then 2 ^ m else 0) = ps_mk q m + (if q m = true then 2 ^ m else 0)
    rw [ih (fun i hi => h i (by omega)), h m (by omega)]
theorem ps_mk_x {p : Nat → Bool} {m : Nat} : ∀ d, (∀ i, m ≤ i → i < m + d → p i = false) → ps_mk p (m + d) = ps_mk p m := by
  intro d
  induction d with
  | zero => exact fun _ => rfl
  | succ d ih =>
    intro h
    rw [← Nat.add_assoc, ps_mkF (h (m + d) (by omega) (by omega))]
    exact ih (fun i a b => h i a (by omega))
theorem ps_mk_8 {p : Nat → Bool} {m : Nat} (hm : m ≤ 8) (h : ∀ i, m ≤ i → i < 8 → p i = false) : ps_mk p 8 = ps_mk p m := by
  have e := ps_mk_x (p := p) (m := m) (8 - m) (fun i a b => h i a (by omega))
  rw [show m + (8 - m) = 8 by omega] at e
  exact e
theorem ps_mk_b {p : Nat → Bool} {i : Nat} : ∀ m, i < m → ps_mk p m / 2 ^ i % 2 = (if p i = true then 1 else 0) := by
  intro m
  induction m with
  | zero => intro h; omega
  | succ m ih =>
    intro h
    by_cases e : i = m
    · subst e
      show (ps_mk p i + (if p i = true then 2 ^ i else 0)) / 2 ^ i % 2 = _
      have l := ps_mk_lt p i
      split
      · rw [Nat.add_div_right _ (ps_p0 i), Nat.div_eq_of_lt l]
      · rw [Nat.add_zero, Nat.div_eq_of_lt l]
    · have r := ih (by omega)
      obtain ⟨d, rfl⟩ : ∃ d, m = i + (1 + d) := ⟨m - i - 1, by omega⟩
      show (ps_mk p (i + (1 + d)) + (if p (i + (1 + d)) = true then 2 ^ (i + (1 + d)) else 0)) / 2 ^ i % 2 = _
      rw [← r]
      split
      · rw [Nat.pow_add 2 i, Nat.add_mul_div_left _ _ (ps_p0 i), Nat.pow_add 2 1]
        generalize ps_mk p (i + (1 + d)) / 2 ^ i = x
        generalize 2 ^ d = z
        omega
      · rfl
def ps_bs (g : Nat → Bool) (w : Nat → Nat) : Nat → Nat
  | 0 => 0
  | m + 1 => if g m = true ∧ (ps_bs g w m = 0 ∨ w m < w (ps_bs g w m)) then m else ps_bs g w m
theorem ps_bsT {g : Nat → Bool} {w : Nat → Nat} {m : Nat} (h : g m = true) (h2 : ps_bs g w m = 0 ∨ w m < w (ps_bs g w m)) : ps_bs g w (m + 1) = m := if_pos ⟨h, h2⟩
theorem ps_bsF {g : Nat → Bool} {w : Nat → Nat} {m : Nat} (h : g m = false) : ps_bs g w (m + 1) = ps_bs g w m := if_neg (by rw [h]; exact fun z => absurd z.1 (by decide))
theorem ps_bsN {g : Nat → Bool} {w : Nat → Nat} {m : Nat} (h : ¬ ps_bs g w m = 0) (h2 : ¬ w m < w (ps_bs g w m)) : ps_bs g w (m + 1) = ps_bs g w m := if_neg (fun z => z.2.elim h h2)
theorem ps_bs1 (g : Nat → Bool) (w : Nat → Nat) : ps_bs g w 1 = 0 := by
  show (if g 0 = true ∧ (ps_bs g w 0 = 0 ∨ w 0 < w (ps_bs g w 0)) then 0 else ps_bs g w 0) = 0
  split <;> rfl
theorem ps_bs_in (g : Nat → Bool) (w : Nat → Nat) (m : Nat) : ps_bs g w m = 0 ∨ (ps_bs g w m < m ∧ g (ps_bs g w m) = true) := by
  induction m with
  | zero => exact Or.inl rfl
  | succ m ih =>
    by_cases c : g m = true ∧ (ps_bs g w m = 0 ∨ w m < w (ps_bs g w m))
    · have e : ps_bs g w (m + 1) = m := if_pos c
      rw [e]
      exact Or.inr ⟨by omega, c.1⟩
    · have e : ps_bs g w (m + 1) = ps_bs g w m := if_neg c
      rw [e]
      rcases ih with a | ⟨a, b⟩
      · exact Or.inl a
      · exact Or.inr ⟨by omega, b⟩
theorem ps_bs_x {g : Nat → Bool} {w : Nat → Nat} {m : Nat} : ∀ d, (∀ i, m ≤ i → i < m + d → g i = false) → ps_bs g w (m + d) = ps_bs g w m := by
  intro d
  induction d with
  | zero => exact fun _ => rfl
  | succ d ih =>
    intro h
    rw [← Nat.add_assoc, ps_bsF (h (m + d) (by omega) (by omega))]
    exact ih (fun i a b => h i a (by omega))
theorem ps_bs_256 {g : Nat → Bool} {w : Nat → Nat} {m : Nat} (hm : m ≤ 256) (h : ∀ i, m ≤ i → i < 256 → g i = false) : ps_bs g w 256 = ps_bs g w m := by
  have e := ps_bs_x (g := g) (w := w) (m := m) (256 - m) (fun i a b => h i a (by omega))
  rw [show m + (256 - m) = 256 by omega] at e
  exact e
def ps_ct (g : Nat → Bool) : Nat → Nat
  | 0 => 0
  | m + 1 => ps_ct g m + (if g m = true then 1 else 0)
theorem ps_ctT {g : Nat → Bool} {m : Nat} (h : g m = true) : ps_ct g (m + 1) = ps_ct g m + 1 := by
  show ps_ct g m + (if g m = true then 1 else 0) = _
  rw [if_pos h]
theorem ps_ctF {g : Nat → Bool} {m : Nat} (h : g m = false) : ps_ct g (m + 1) = ps_ct g m := by
  show ps_ct g m + (if g m = true then 1 else 0) = _
  rw [if_neg (by rw [h]; decide)]
  rfl
theorem ps_ct_le (g : Nat → Bool) (m : Nat) : ps_ct g m ≤ m := by
  induction m with
  | zero => exact Nat.le_refl 0
  | succ m ih =>
    show ps_ct g m + (if g m = true then 1 else 0) ≤ m + 1
    split <;> omega
theorem ps_ct_x {g : Nat → Bool} {m : Nat} : ∀ d, (∀ i, m ≤ i → i < m + d → g i = false) → ps_ct g (m + d) = ps_ct g m := by
  intro d
  induction d with
  | zero => exact fun _ => rfl
  | succ d ih =>
    intro h
    rw [← Nat.add_assoc, ps_ctF (h (m + d) (by omega) (by omega))]
    exact ih (fun i a b => h i a (by omega))
theorem ps_ct_256 {g : Nat → Bool} {m : Nat} (hm : m ≤ 256) (h : ∀ i, m ≤ i → i < 256 → g i = false) : ps_ct g 256 = ps_ct g m := by
  have e := ps_ct_x (g := g) (m := m) (256 - m) (fun i a b => h i a (by omega))
  rw [show m + (256 - m) = 256 by omega] at e
  exact e
def ps_er (P : Nat → Bool) : Nat → Nat → Int32
  | 0, _ => -1
  | d + 1, t => if P t = true then nI t else ps_er P d (t + 1)
theorem ps_erT {P : Nat → Bool} {d t : Nat} (h : P t = true) : ps_er P (d + 1) t = nI t := if_pos h
theorem ps_erF {P : Nat → Bool} {d t : Nat} (h : P t = false) : ps_er P (d + 1) t = ps_er P d (t + 1) := if_neg (by rw [h]; decide)
def ps_ex (p : Nat → Bool) : Nat → Bool
  | 0 => false
  | m + 1 => ps_ex p m || p m
theorem ps_ex_t {p : Nat → Bool} {m : Nat} (h : ps_ex p m = true) : ∀ d, ps_ex p (m + d) = true := by
  intro d
  induction d with
  | zero => exact h
  | succ d ih =>
    show (ps_ex p (m + d) || _) = true
    rw [ih]
    rfl
theorem ps_ex_le {p : Nat → Bool} {m j : Nat} (h : ps_ex p m = true) (hj : m ≤ j) : ps_ex p j = true := by
  have e := ps_ex_t h (j - m)
  rw [show m + (j - m) = j by omega] at e
  exact e
theorem ps_exF {p : Nat → Bool} {m : Nat} (h : p m = false) : ps_ex p (m + 1) = ps_ex p m := by
  show (ps_ex p m || p m) = _
  rw [h, Bool.or_false]
theorem ps_exT {p : Nat → Bool} {m : Nat} (h : p m = true) : ps_ex p (m + 1) = true := by
  show (ps_ex p m || p m) = _
  rw [h, Bool.or_true]
theorem ps_ex_x {p : Nat → Bool} {m : Nat} : ∀ d, (∀ i, m ≤ i → i < m + d → p i = false) → ps_ex p (m + d) = ps_ex p m := by
  intro d
  induction d with
  | zero => exact fun _ => rfl
  | succ d ih =>
    intro h
    rw [← Nat.add_assoc, ps_exF (h (m + d) (by omega) (by omega))]
    exact ih (fun i a b => h i a (by omega))
theorem ps_ex_8 {p : Nat → Bool} {m : Nat} (hm : m ≤ 8) (h : ∀ i, m ≤ i → i < 8 → p i = false) : ps_ex p 8 = ps_ex p m := by
  have e := ps_ex_x (p := p) (m := m) (8 - m) (fun i a b => h i a (by omega))
  rw [show m + (8 - m) = 8 by omega] at e
  exact e
