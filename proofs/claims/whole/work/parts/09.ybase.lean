def ps_sk (R d : Nat) (K : Nat → Int32) : Prop := ∀ j, j < d → K j = nI (R / 2 ^ (d - 1 - j) % 2)
theorem ps_sk_push {R d b : Nat} {K : Nat → Int32} (h : ps_sk R d K) (hb : b < 2) : ps_sk (2 * R + b) (d + 1) (upd K d (nI b)) := by
  intro j hj
  by_cases e : j = d
  · rw [e, pk_us, show d + 1 - 1 - d = 0 by omega, Nat.pow_zero, Nat.div_one]
    refine congrArg nI ?_
    omega
  · rw [pk_un e, h j (by omega), show d + 1 - 1 - j = (d - 1 - j) + 1 by omega, ps_bS _ _ _ hb]
theorem ps_sk_drop {R d n : Nat} {K : Nat → Int32} (h : ps_sk R d K) (hn : n ≤ d) : ps_sk (R / 2 ^ n) (d - n) K := by
  intro j hj
  rw [h j (by omega), ps_bD, show n + (d - n - 1 - j) = d - 1 - j by omega]
theorem ps_vn {b : Nat} (h : b < 2) : vp_nar .boolean (nI b) = nI b := by
  have e : b = 0 ∨ b = 1 := by omega
  rcases e with e | e
  · subst e
    rfl
  · subst e
    rfl
section
variable {ml tc lc rc ck : Nat} {yd : Int32} {T L : Nat → Nat} {bS bW bH bK : Nat → Int32}
theorem py_push {post : Int32 → SY → Prop} {J : Int32 → Int32 → Int32 → (Nat → Int32) → (Nat → Int32) → (Nat → Int32) → (Nat → Int32) → (Nat → Int32) → (Nat → Int32) → Prop} {x1 x3 : Int32} {top i b : Nat} (ht : top < 16) (hi : i < 2 ^ 30) (hb : b < 2)
    (h : J (nI (top + 1)) x3 (nI (i + 1)) (fun j => nI (T j)) (fun j => nI (L j)) bS bW bH (upd bK top (nI b))) : wY_isTrue_141 post J x1 (nI top) x3 (nI i) (nI b) (nI tc) (nI lc) (nI rc) (nI ck) (nI ml) yd (fun j => nI (T j)) (fun j => nI (L j)) bS bW bH bK := by
  refine ⟨vp_in_nI ht (by omega), nm_r (e' := upd bK top (nI b)) ?_ (nm_r (nI_1 top) (nm_r (nI_1 i) h))⟩
  rw [ps_vn hb, nI_clamp (by omega)]
theorem py_jloop {post : Int32 → SY → Prop} {J : Int32 → Int32 → Int32 → (Nat → Int32) → (Nat → Int32) → (Nat → Int32) → (Nat → Int32) → (Nat → Int32) → (Nat → Int32) → Prop} {x1 x3 : Int32} {R k n d i : Nat} (hd : d ≤ 8) (hn : n ≤ d) (hn1 : 1 ≤ n) (hi : i < 2 ^ 30) (hk : k ≤ 8) (sk : ps_sk R d bK)
    (h : J (nI (d - n + 1)) x3 (nI (i + 1)) (fun j => nI (T j)) (fun j => nI (L j)) bS bW bH (upd bK (d - n) (nI (if k ≤ ps_cnt R n then 1 else 0)))) :
    ∀ r m, m + r = n → wY_isTrue_97 post J x1 x3 (nI i) (nI k) (nI tc) (nI lc) (nI rc) (nI ck) (nI ml) yd (fun j => nI (T j)) (fun j => nI (L j)) bS bW bH bK (r + 1) (nI (d - m)) (nI (ps_cnt R m)) (nI r) := by
  intro r
  induction r with
  | zero =>
    intro m hm
    cases (show m = n by omega)
    have hc := ps_cnt_le R n
    refine br_t (nI_le (a := 0) (b := 0) (by omega) (by omega)) (pk_lt (ps_cnt R n) k (fun z => ?_) (fun z => ?_))
    · rw [if_neg (by omega)] at h
      exact py_push (b := 0) (by omega) hi (by decide) h
    · rw [if_pos z] at h
      exact py_push (b := 1) (by omega) hi (by decide) h
  | succ r ih =>
    intro m hm
    have hc := ps_cnt_le R m
    have g := ih (m + 1) (by omega)
    refine br_f (nI_nle (by omega) (by omega)) (br_f (nI_nle (by omega) (by omega)) (nm_r (e' := nI (d - (m + 1))) ?_ ⟨vp_in_nI (by omega) (by omega), ?_⟩))
    · rw [show d - m = (d - (m + 1)) + 1 by omega]
      exact pk_m1 _
    · have e : ps_cnt R (m + 1) = ps_cnt R m + R / 2 ^ m % 2 := rfl
      rw [nI_clamp (by omega), sk (d - (m + 1)) (by omega), show d - 1 - (d - (m + 1)) = m by omega]
      have b := ps_b2 (R / 2 ^ m)
      refine pk_eq (R / 2 ^ m % 2) 0 (fun z => ?_) (fun z => ?_) rfl rfl (by omega)
      · rw [e, z] at g
        exact nm_r (pk_m1 r) g
      · rw [e, show R / 2 ^ m % 2 = 1 by omega] at g
        exact nm_r (nI_1 _) (nm_r (pk_m1 r) g)
theorem py_tok {post : Int32 → SY → Prop} {J : Int32 → Int32 → Int32 → (Nat → Int32) → (Nat → Int32) → (Nat → Int32) → (Nat → Int32) → (Nat → Int32) → (Nat → Int32) → Prop} {x1 : Int32} {s i : Nat} (hok : ps_ok T tc) (hlk : ps_lk T tc ≤ 8) (hi : i < tc) (htc : tc ≤ 15) (sk : ps_sk (ps_rv T s i) (ps_dp T i) bK)
    (h : ∀ K : Nat → Int32, ps_sk (ps_rv T s (i + 1)) (ps_dp T (i + 1)) K → J (nI (ps_dp T (i + 1))) (nI (ps_lk T (i + 1))) (nI (i + 1)) (fun j => nI (T j)) (fun j => nI (L j)) bS bW bH K) :
    wY_isTrue_37 post J x1 (nI (ps_dp T i)) (nI (ps_lk T i)) (nI i) (nI (s / 2 ^ ps_lk T i % 2)) (nI tc) (nI lc) (nI rc) (nI ck) (nI ml) yd (fun j => nI (T j)) (fun j => nI (L j)) bS bW bH bK := by
  have q2 := Nat.le_trans (ps_lk_le (T := T) (show i ≤ tc by omega)) hlk
  have q := Nat.le_trans (ps_dp_lk T i) q2
  have t := hok i hi
  refine ⟨vp_in_nI (by omega) (by omega), ?_⟩
  rw [nI_clamp (by omega)]
  refine pk_le 256 (T i) (fun c => ?_) (fun c => ?_)
  · have n := t.2 c
    have c2 : ¬ T i < 256 := by omega
    have hh := h _ (by rw [ps_rvJ c2, ps_dpJ c2, show ps_dp T i - (T i - 256) % 8 = ps_dp T i - ((T i - 256) % 8 + 1) + 1 by omega]; exact ps_sk_push (ps_sk_drop sk n) (by split <;> decide))
    rw [ps_dpJ c2, ps_lkJ c2, show ps_dp T i - (T i - 256) % 8 = ps_dp T i - ((T i - 256) % 8 + 1) + 1 by omega] at hh
    refine ⟨vp_in_nI (by omega) (by omega), by decide, nm_r (e' := nI ((T i - 256) / 8 + 1)) ?_ ⟨vp_in_nI (by omega) (by omega), by decide, nm_r (e' := nI ((T i - 256) % 8 + 1)) ?_ ⟨_, py_jloop q n (by omega) (by omega) (by omega) sk hh _ 0 (Nat.zero_add _)⟩⟩⟩
    · rw [px_sub c, px_div8 (by omega), nI_1]
    · rw [px_sub c, px_rem8 (by omega), nI_1]
  · have hh := h _ (by rw [ps_rvL c, ps_dpL c]; exact ps_sk_push sk (ps_b2 _))
    rw [ps_dpL c, ps_lkL c] at hh
    exact nm_r (nI_1 _) (py_push (by omega) (by omega) (ps_b2 _) hh)
theorem py_tloop {post : Int32 → SY → Prop} {s : Nat} (hok : ps_ok T tc) (hlk : ps_lk T tc ≤ 8) (hdp : ps_dp T tc = 1) (htc : tc ≤ 15) (hs : s < 256) (hp : ∀ K : Nat → Int32, post (ps_i (ps_tr T tc s)) (nI tc, nI lc, nI rc, nI ck, nI ml, yd, (fun j => nI (T j)), (fun j => nI (L j)), bS, bW, bH, K)) :
    ∀ d i (K : Nat → Int32), i + d = tc → ps_sk (ps_rv T s i) (ps_dp T i) K → wY_isTrue_7 post (nI s) (nI tc) (nI lc) (nI rc) (nI ck) (nI ml) yd (d + 1) (nI (ps_dp T i)) (nI (ps_lk T i)) (nI i) (fun j => nI (T j)) (fun j => nI (L j)) bS bW bH K := by
  intro d
  induction d with
  | zero =>
    intro i K hi sk
    cases (show i = tc by omega)
    have r := ps_rv_lt (s := s) hok tc (Nat.le_refl _)
    have k0 := sk 0 (by omega)
    rw [hdp] at r k0 ⊢
    have h := hp K
    refine br_f (nI_ge (b := 16) (by omega) (by decide)) (br_t (nI_le (Nat.le_refl _) (by omega)) (br_t rfl ?_))
    rw [k0, show 1 - 1 - 0 = 0 from rfl, Nat.pow_zero, Nat.div_one]
    refine pk_eq (ps_rv T s tc % 2) 0 (fun z => ?_) (fun z => ?_) rfl rfl (by omega)
    · rw [ps_tr, decide_eq_false (by omega)] at h
      exact h
    · rw [ps_tr, decide_eq_true (by omega)] at h
      exact h
  | succ d ih =>
    intro i K hi sk
    have q2 := Nat.le_trans (ps_lk_le (T := T) (show i ≤ tc by omega)) hlk
    refine br_f (nI_ge (b := 16) (by omega) (by decide)) (br_f (nI_ge (by omega) (by omega)) ?_)
    rw [ps_bit (by omega) (by omega)]
    have b := ps_b2 (s / 2 ^ ps_lk T i)
    have g := py_tok (ml := ml) (lc := lc) (rc := rc) (ck := ck) (yd := yd) (L := L) (bS := bS) (bW := bW) (bH := bH) (post := post) (J := wY_isTrue_7 post (nI s) (nI tc) (nI lc) (nI rc) (nI ck) (nI ml) yd (d + 1)) (x1 := nI s) hok hlk (show i < tc by omega) htc sk (fun K' sk' => ih (i + 1) K' (by omega) sk')
    refine pk_eq (s / 2 ^ ps_lk T i % 2) 1 (fun z => ?_) (fun z => ?_) rfl rfl (by omega)
    · rw [z] at g
      exact g
    · rw [show s / 2 ^ ps_lk T i % 2 = 0 by omega] at g
      exact g
theorem py_true {post : Int32 → SY → Prop} {s : Nat} (hok : ps_ok T tc) (hlk : ps_lk T tc ≤ 8) (hdp : ps_dp T tc = 1) (htc : tc ≤ 15) (hs : s < 256) (hp : ∀ K : Nat → Int32, post (ps_i (ps_tr T tc s)) (nI tc, nI lc, nI rc, nI ck, nI ml, yd, (fun j => nI (T j)), (fun j => nI (L j)), bS, bW, bH, K)) : wpY_isTrue post (nI tc, nI lc, nI rc, nI ck, nI ml, yd, (fun j => nI (T j)), (fun j => nI (L j)), bS, bW, bH, bK) (nI s) :=
  ⟨tc + 1, py_tloop hok hlk hdp htc hs hp tc 0 bK (Nat.zero_add _) (fun j h => absurd h (Nat.not_lt_zero j))⟩
end
