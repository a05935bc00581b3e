section
variable {ml tc lc rc ck : Nat} {yd : Int32} {T L S : Nat → Nat} {bS bW bH bK : Nat → Int32}
theorem py_kend {post : Int32 → SY → Prop} {s : Nat} (hok : ps_ok T tc) (hlk : ps_lk T tc ≤ 8) (hdp : ps_dp T tc = 1) (htc : tc ≤ 15) (hs : s < 256) (hp : ∀ K : Nat → Int32, post (ps_i (!ps_tr T tc s)) (nI tc, nI lc, nI rc, nI ck, nI ml, yd, (fun j => nI (T j)), (fun j => nI (L j)), bS, bW, bH, K)) : wY_seal_69 post (nI s) (nI tc) (nI lc) (nI rc) (nI ck) (nI ml) yd (fun j => nI (T j)) (fun j => nI (L j)) bS bW bH bK := by
  refine py_true hok hlk hdp htc hs (fun K => ?_)
  have h := hp K
  by_cases c : ps_tr T tc s = true
  · rw [c] at h ⊢
    exact br_f (by decide) h
  · rw [ps_nf c] at h ⊢
    exact br_t (by decide) h
theorem py_kloop {post : Int32 → SY → Prop} (hok : ps_ok T tc) (hlk : ps_lk T tc ≤ 8) (hdp : ps_dp T tc = 1) (htc : tc ≤ 15) (hlc : lc ≤ 8) (hL : ∀ j, j < lc → ps_fc (L j)) (hp : ∀ K : Nat → Int32, post (ps_i (!ps_tr T tc (ps_mk (fun i => decide (¬ L i / 64 = 1)) lc))) (nI tc, nI lc, nI rc, nI ck, nI ml, yd, (fun j => nI (T j)), (fun j => nI (L j)), bS, bW, bH, K)) :
    ∀ d i, i + d = lc → wY_seal_30 post (nI tc) (nI lc) (nI rc) (nI ck) (nI ml) yd (fun j => nI (T j)) (fun j => nI (L j)) bS bW bH bK (d + 1) (nI (ps_mk (fun i => decide (¬ L i / 64 = 1)) i)) (nI i) := by
  have h8 := Nat.lt_of_lt_of_le (ps_mk_lt (fun i => decide (¬ L i / 64 = 1)) lc) (ps_p8 hlc)
  intro d
  induction d with
  | zero =>
    intro i hi
    cases (show i = lc by omega)
    exact br_c (fun _ => py_kend hok hlk hdp htc h8 hp) (fun _ => br_t (nI_le (Nat.le_refl _) (by omega)) (py_kend hok hlk hdp htc h8 hp))
  | succ d ih =>
    intro i hi
    have n := ih (i + 1) (by omega)
    obtain ⟨l1, l2, l3⟩ := hL i (by omega)
    refine br_f (nI_ge (b := 8) (by omega) (by decide)) (br_f (nI_ge (by omega) (by omega)) ⟨vp_in_nI (by omega) (by omega), by decide, ?_⟩)
    rw [nI_clamp (show i < 2 ^ 31 by omega), px_div64 (by omega)]
    refine pk_eq (L i / 64) 1 (fun h => ?_) (fun h => ?_)
    · rw [ps_mkF (by simp [h])] at n
      exact nm_r (nI_1 i) n
    · rw [ps_mkT (by simp [h])] at n
      exact nm_r (px_set (by omega)) (nm_r (nI_1 i) n)
theorem py_oloop {post : SY → Prop} (hp : ∀ b : Nat → Int32, (∀ j, j < 8 → b j = 0) → post (nI tc, nI lc, nI rc, nI ck, nI ml, yd, (fun j => nI (T j)), (fun j => nI (L j)), b, bW, bH, bK)) :
    ∀ d i (b : Nat → Int32), i + d = 8 → (∀ j, j < i → b j = 0) → wY_reopen_22 post (nI tc) (nI lc) (nI rc) (nI ck) (nI ml) yd (d + 1) (nI i) (fun j => nI (T j)) (fun j => nI (L j)) b bW bH bK := by
  intro d
  induction d with
  | zero =>
    intro i b hi hb
    cases (show i = 8 by omega)
    exact br_t (nI_le (a := 8) (b := 8) (Nat.le_refl _) (by decide)) (hp b hb)
  | succ d ih =>
    intro i b hi hb
    refine br_f (nI_ge (b := 8) (by omega) (by decide)) ⟨vp_in_nI (by omega) (by omega), nm_e (nm_r (nI_1 i) (ih (i + 1) _ (by omega) ?_))⟩
    intro j hj
    rw [nI_clamp (by omega)]
    by_cases e : j = i
    · rw [e, pk_us]
    · rw [pk_un e]
      exact hb j (by omega)
theorem py_vdraft {post : Int32 → SY → Prop} {x1 x2 : Int32} (hd : yd = 0) (hp : post (-6) (nI tc, nI lc, nI rc, nI ck, nI ml, yd, (fun j => nI (T j)), (fun j => nI (L j)), bS, bW, bH, bK)) :
    ∀ d i, i + d = 256 → wY_variants_9 post x1 (d + 1) x2 (nI i) (nI tc) (nI lc) (nI rc) (nI ck) (nI ml) yd (fun j => nI (T j)) (fun j => nI (L j)) bS bW bH bK := by
  intro d
  induction d with
  | zero =>
    intro i hi
    cases (show i = 256 by omega)
    exact br_t (nI_le (a := 256) (b := 256) (Nat.le_refl _) (by decide)) (br_t hd hp)
  | succ d ih =>
    intro i hi
    exact br_f (nI_ge (b := 256) (by omega) (by decide)) (br_t hd (nm_r (nI_1 i) (ih (i + 1) (by omega))))
theorem py_vloop {post : Int32 → SY → Prop} {f : Nat} (hd : ¬ yd = 0) (hok : ps_ok T tc) (hlk : ps_lk T tc ≤ 8) (hdp : ps_dp T tc = 1) (htc : tc ≤ 15) (hlc : lc ≤ 8) (hf : f < 2 ^ lc)
    (hp : ∀ K : Nat → Int32, post (nI (ps_ct (fun s => ps_sb s f && ps_mn (ps_tr T tc) lc s) (2 ^ lc))) (nI tc, nI lc, nI rc, nI ck, nI ml, yd, (fun j => nI (T j)), (fun j => nI (L j)), bS, bW, bH, K)) :
    ∀ d i (K : Nat → Int32), i + d = 256 → wY_variants_9 post (nI f) (d + 1) (nI (ps_ct (fun s => ps_sb s f && ps_mn (ps_tr T tc) lc s) i)) (nI i) (nI tc) (nI lc) (nI rc) (nI ck) (nI ml) yd (fun j => nI (T j)) (fun j => nI (L j)) bS bW bH K := by
  have h8 := ps_p8 hlc
  intro d
  induction d with
  | zero =>
    intro i K hi
    cases (show i = 256 by omega)
    rw [ps_ct_256 h8 (fun i a b => by rw [ps_sb_lt (by omega) hf a, Bool.false_and])]
    exact br_t (nI_le (a := 256) (b := 256) (Nat.le_refl _) (by decide)) (br_f hd (hp K))
  | succ d ih =>
    intro i K hi
    have n := fun K => ih (i + 1) K (by omega)
    refine br_f (nI_ge (b := 256) (by omega) (by decide)) (br_f hd (br_c (fun c1 => ?_) (fun c1 => ?_)))
    · have s1 : ps_sb i f = true := decide_eq_true c1
      refine py_min hok hlk hdp htc (by omega) (fun K' => ?_)
      have s2 : ps_mn (ps_tr T tc) 8 i = ps_mn (ps_tr T tc) lc i := by
        rw [ps_mn, ps_mn, ps_mnA_8 (Nat.lt_of_le_of_lt (ps_sble (by omega) c1) hf) hlc]
      have n' := n K'
      rw [s2]
      refine ek_if (ps_i0 _) (fun h => ?_) (fun h => ?_)
      · rw [ps_ctF (by rw [h, Bool.and_false])] at n'
        exact nm_r (nI_1 i) n'
      · rw [ps_ctT (by rw [s1, ps_nt h]; rfl)] at n'
        exact nm_r (nI_1 _) (nm_r (nI_1 i) n')
    · have s1 : ps_sb i f = false := decide_eq_false c1
      have n' := n K
      rw [ps_ctF (by rw [s1, Bool.false_and])] at n'
      exact nm_r (nI_1 i) n'
theorem py_send {post : Int32 → SY → Prop} (hok : ps_ok T tc) (hlk : ps_lk T tc ≤ 8) (hdp : ps_dp T tc = 1) (htc : tc ≤ 15) (hlc : lc ≤ 8)
    (hp : ∀ K : Nat → Int32, post (nI (if ps_tr T tc (ps_mk (ps_fl S) lc) = true then (if ps_mn (ps_tr T tc) lc (ps_mk (ps_fl S) lc) = true then 1 else 4) else 3)) (nI tc, nI lc, nI rc, nI ck, nI ml, yd, (fun j => nI (T j)), (fun j => nI (L j)), bS, bW, bH, K)) (n : Nat) :
    wY_spend_17 post (nI (ps_mk (ps_fl S) lc)) (nI tc) (nI lc) (nI rc) (nI ck) (nI ml) yd (fun j => nI (T j)) (fun j => nI (L j)) bS bW bH bK (n + 1) (nI 8) := by
  have h8 : ps_mk (ps_fl S) lc < 256 := Nat.lt_of_lt_of_le (ps_mk_lt _ _) (ps_p8 hlc)
  refine br_t (nI_le (Nat.le_refl _) (by decide)) (py_true hok hlk hdp htc h8 (fun K => ?_))
  by_cases c2 : ps_tr T tc (ps_mk (ps_fl S) lc) = true
  · rw [if_pos c2] at hp
    rw [c2]
    refine br_f (by decide) (py_min hok hlk hdp htc h8 (fun K' => ?_))
    have h := hp K'
    have s2 : ps_mn (ps_tr T tc) 8 (ps_mk (ps_fl S) lc) = ps_mn (ps_tr T tc) lc (ps_mk (ps_fl S) lc) := by
      rw [ps_mn, ps_mn, ps_mnA_8 (ps_mk_lt _ _) hlc]
    rw [s2]
    by_cases c3 : ps_mn (ps_tr T tc) lc (ps_mk (ps_fl S) lc) = true
    · rw [if_pos c3] at h
      rw [c3]
      exact br_f (by decide) h
    · rw [if_neg c3] at h
      rw [ps_nf c3]
      exact br_t (by decide) h
  · have h := hp K
    rw [if_neg c2] at h
    rw [ps_nf c2]
    exact br_t (by decide) h
theorem py_sloop {post : Int32 → SY → Prop} (hok : ps_ok T tc) (hlk : ps_lk T tc ≤ 8) (hdp : ps_dp T tc = 1) (htc : tc ≤ 15) (hlc : lc ≤ 8) (hck : ck < 64) (hB : ∀ j, j < 8 → bS j = nI (S j)) (hb : ∀ j, j < 8 → S j < 256) (hz : ∀ j, lc ≤ j → j < 8 → S j = 0) (hL : ∀ j, j < lc → ps_fc (L j))
    (hp : ∀ K : Nat → Int32, post (nI (ps_sp T L S tc lc ck)) (nI tc, nI lc, nI rc, nI ck, nI ml, yd, (fun j => nI (T j)), (fun j => nI (L j)), bS, bW, bH, K)) :
    ∀ d i, i + d = 8 → ps_ex (ps_wr L S ck) i = false → wY_spend_17 post (nI (ps_mk (ps_fl S) lc)) (nI tc) (nI lc) (nI rc) (nI ck) (nI ml) yd (fun j => nI (T j)) (fun j => nI (L j)) bS bW bH bK (d + 1) (nI i) := by
  have x8 : ps_ex (ps_wr L S ck) 8 = ps_ex (ps_wr L S ck) lc := ps_ex_8 hlc (fun i a b => by
    have e : ps_fl S i = false := decide_eq_false (not_not_intro (hz i a b))
    rw [ps_wr, e, Bool.false_and])
  intro d
  induction d with
  | zero =>
    intro i hi hm
    cases (show i = 8 by omega)
    refine py_send hok hlk hdp htc hlc (fun K => ?_) 0
    have h := hp K
    rw [ps_sp, if_neg (by rw [← x8, hm]; decide)] at h
    exact h
  | succ d ih =>
    intro i hi hm
    have b := hb i (by omega)
    refine br_f (nI_ge (b := 8) (by omega) (by decide)) ⟨vp_in_nI (by omega) (by omega), ?_⟩
    rw [nI_clamp (by omega), hB i (by omega)]
    refine pk_eq (S i) 0 (fun h => ?_) (fun h => ?_)
    · refine nm_r (nI_1 i) (ih (i + 1) (by omega) ?_)
      have e : ps_fl S i = false := decide_eq_false (not_not_intro h)
      rw [ps_exF (by rw [ps_wr, e, Bool.false_and])]
      exact hm
    · have il : i < lc := Nat.lt_of_not_le fun q => h (hz i q (by omega))
      have e : ps_fl S i = true := decide_eq_true h
      refine py_fits il hlc hck (hB i (by omega)) b (hL i il) (ek_if (ps_i0 _) (fun f => ?_) (fun f => ?_))
      · have h := hp bK
        rw [ps_sp, if_pos (ps_ex_le (ps_exT (p := ps_wr L S ck) (m := i) (by rw [ps_wr, e, f]; rfl)) (show i + 1 ≤ lc by omega))] at h
        exact h
      · refine nm_r (nI_1 i) (ih (i + 1) (by omega) ?_)
        rw [ps_exF (by rw [ps_wr, e, ps_nt f]; rfl)]
        exact hm
theorem py_edraft {post : Int32 → SY → Prop} {xe : Int32} (hd : yd = 0) (hlc : lc ≤ 8) (hL : ∀ j, j < lc → ps_fc (L j)) (hH : ∀ c, 64 ≤ c → c < 192 → c % 64 < 8 → bH c = ps_i (ps_hd xe c)) (hp : post (-6) (nI tc, nI lc, nI rc, nI ck, nI ml, yd, (fun j => nI (T j)), (fun j => nI (L j)), bS, bW, bH, bK)) :
    ∀ d t, t + d = 64 → wY_earliest_2 post (d + 1) (nI t) (nI tc) (nI lc) (nI rc) (nI ck) (nI ml) yd (fun j => nI (T j)) (fun j => nI (L j)) bS bW bH bK := by
  intro d
  induction d with
  | zero =>
    intro t ht
    cases (show t = 64 by omega)
    exact br_t (nI_le (a := 64) (b := 64) (Nat.le_refl _) (by decide)) (br_t hd hp)
  | succ d ih =>
    intro t ht
    exact br_f (nI_ge (b := 64) (by omega) (by decide)) (py_owners hlc (by omega) hL hH (br_t hd (nm_r (nI_1 t) (ih (t + 1) (by omega)))))
theorem py_eloop {post : Int32 → SY → Prop} {xe : Int32} (hd : ¬ yd = 0) (hok : ps_ok T tc) (hlk : ps_lk T tc ≤ 8) (hdp : ps_dp T tc = 1) (htc : tc ≤ 15) (hlc : lc ≤ 8) (hL : ∀ j, j < lc → ps_fc (L j)) (hH : ∀ c, 64 ≤ c → c < 192 → c % 64 < 8 → bH c = ps_i (ps_hd xe c)) :
    ∀ d t (K : Nat → Int32), t + d = 64 → (∀ K : Nat → Int32, post (ps_er (fun t => ps_tr T tc (ps_mk (ps_ow L xe t) lc)) d t) (nI tc, nI lc, nI rc, nI ck, nI ml, yd, (fun j => nI (T j)), (fun j => nI (L j)), bS, bW, bH, K)) → wY_earliest_2 post (d + 1) (nI t) (nI tc) (nI lc) (nI rc) (nI ck) (nI ml) yd (fun j => nI (T j)) (fun j => nI (L j)) bS bW bH K := by
  intro d
  induction d with
  | zero =>
    intro t K ht hp
    cases (show t = 64 by omega)
    exact br_t (nI_le (a := 64) (b := 64) (Nat.le_refl _) (by decide)) (br_f hd (hp K))
  | succ d ih =>
    intro t K ht hp
    refine br_f (nI_ge (b := 64) (by omega) (by decide)) (py_owners hlc (by omega) hL hH (br_f hd (py_true hok hlk hdp htc (Nat.lt_of_lt_of_le (ps_mk_lt _ _) (ps_p8 hlc)) (fun K' => ?_))))
    by_cases c : ps_tr T tc (ps_mk (ps_ow L xe t) lc) = true
    · have h := hp K'
      rw [ps_erT (P := fun t => ps_tr T tc (ps_mk (ps_ow L xe t) lc)) c] at h
      rw [c]
      exact br_f (by decide) h
    · rw [ps_erF (P := fun t => ps_tr T tc (ps_mk (ps_ow L xe t) lc)) (ps_nf c)] at hp
      rw [ps_nf c]
      exact br_t (by decide) (nm_r (nI_1 t) (ih (t + 1) K' (by omega) hp))
end
