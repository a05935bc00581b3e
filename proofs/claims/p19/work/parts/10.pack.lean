def ps_pk (T : Nat → Nat) (b lo : Nat) : Nat → Nat
  | 0 => 0
  | c + 1 => ps_pk T b lo c + T (lo + c) * 2 ^ (b * c)
theorem ps_pk_s {T : Nat → Nat} {b lo c : Nat} : ps_pk T b lo (c + 1) = ps_pk T b lo c + T (lo + c) * 2 ^ (b * c) := rfl
theorem ps_pk_lt {T : Nat → Nat} {b lo : Nat} : ∀ c, (∀ j, j < c → T (lo + j) < 2 ^ b) → ps_pk T b lo c < 2 ^ (b * c) := by
  intro c
  induction c with
  | zero => exact fun _ => Nat.one_pos
  | succ c ih =>
    intro h
    have r := ih (fun j hj => h j (by omega))
    have t := h c (by omega)
    rw [ps_pk_s, Nat.mul_succ, Nat.pow_add, Nat.mul_comm (2 ^ (b * c))]
    have m : (T (lo + c) + 1) * 2 ^ (b * c) ≤ 2 ^ b * 2 ^ (b * c) := Nat.mul_le_mul_right _ t
    rw [Nat.add_mul, Nat.one_mul] at m
    omega
theorem ps_pk_c {T T' : Nat → Nat} {b lo : Nat} : ∀ c, (∀ j, j < c → T' (lo + j) = T (lo + j)) → ps_pk T' b lo c = ps_pk T b lo c := by
  intro c
  induction c with
  | zero => exact fun _ => rfl
  | succ c ih =>
    intro h
    rw [ps_pk_s, ps_pk_s, ih (fun j hj => h j (by omega)), h c (by omega)]
theorem ps_pk_g {T : Nat → Nat} {b lo j : Nat} : ∀ c, j < c → (∀ j, j < c → T (lo + j) < 2 ^ b) → ps_pk T b lo c / 2 ^ (b * j) % 2 ^ b = T (lo + j) := by
  intro c
  induction c with
  | zero => intro h; omega
  | succ c ih =>
    intro hj h
    have h' : ∀ j, j < c → T (lo + j) < 2 ^ b := fun j hj => h j (by omega)
    rw [ps_pk_s]
    by_cases e : j = c
    · subst e
      rw [Nat.add_mul_div_right _ _ (ps_p0 _), Nat.div_eq_of_lt (ps_pk_lt j h'), Nat.zero_add, Nat.mod_eq_of_lt (h j (by omega))]
    · obtain ⟨d, rfl⟩ : ∃ d, c = j + (1 + d) := ⟨c - j - 1, by omega⟩
      rw [show b * (j + (1 + d)) = b * j + (b + b * d) by rw [Nat.mul_add, Nat.mul_add, Nat.mul_one], Nat.pow_add 2 (b * j), Nat.pow_add 2 b, ← Nat.mul_assoc, Nat.mul_comm _ (2 ^ (b * j)), Nat.mul_assoc, Nat.add_mul_div_left _ _ (ps_p0 _), ← Nat.mul_assoc, Nat.mul_comm _ (2 ^ b), Nat.mul_assoc, Nat.add_mul_mod_self_left]
      exact ih (by omega) h'
def ps_pt (T : Nat → Nat) (tc p : Nat) : Nat := ps_pk T 9 (7 * p) (min (tc - 7 * p) 7)
theorem ps_pt_put {T : Nat → Nat} {tc p c : Nat} (h : tc / 7 = p) : ps_pt (ps_up T tc c) (tc + 1) p = ps_pt T tc p + c * 2 ^ (9 * (tc % 7)) := by
  unfold ps_pt
  rw [show min (tc + 1 - 7 * p) 7 = tc % 7 + 1 by omega, show min (tc - 7 * p) 7 = tc % 7 by omega, ps_pk_s, show 7 * p + tc % 7 = tc by omega, ps_up_s]
  rw [ps_pk_c (T := T) (tc % 7) (fun j hj => ps_up_n (by omega))]
theorem ps_pt_keep {T : Nat → Nat} {tc p c : Nat} (h : ¬ tc / 7 = p) : ps_pt (ps_up T tc c) (tc + 1) p = ps_pt T tc p := by
  unfold ps_pt
  rw [show min (tc + 1 - 7 * p) 7 = min (tc - 7 * p) 7 by omega]
  exact ps_pk_c _ (fun j hj => ps_up_n (by omega))
theorem ps_pt_lt {T : Nat → Nat} {tc p : Nat} (hT : ∀ j, j < tc → T j < 512) : ps_pt T tc p < 2 ^ (9 * min (tc - 7 * p) 7) :=
  ps_pk_lt _ (fun j hj => hT _ (by omega))
theorem ps_pw {a b : Nat} (h : a ≤ b) : 2 ^ a ≤ 2 ^ b := Nat.pow_le_pow_right (by decide) h
theorem ps_pt_64 {T : Nat → Nat} {tc p : Nat} (hT : ∀ j, j < tc → T j < 512) : ps_pt T tc p < 2 ^ 64 :=
  Nat.lt_of_lt_of_le (ps_pt_lt hT) (ps_pw (by omega))
theorem ps_pt_g {T : Nat → Nat} {tc i p : Nat} (hT : ∀ j, j < tc → T j < 512) (hi : i < tc) (hp : i / 7 = p) : ps_pt T tc p / 2 ^ (9 * (i % 7)) % 512 = T i := by
  have e := ps_pk_g (T := T) (b := 9) (lo := 7 * p) (j := i % 7) (min (tc - 7 * p) 7) (by omega) (fun j hj => hT _ (by omega))
  rw [show 7 * p + i % 7 = i by omega] at e
  exact e
theorem pl_and (x : Nat) (k : Nat) {m : Int32} (hk : k ≤ 30) (hm : m.toBitVec.toNat = 2 ^ k - 1) : nI x &&& m = nI (x % 2 ^ k) := by
  rw [pk_and _ k hm]
  refine congrArg nI ?_
  show (x % 2 ^ 32) % 2 ^ k = _
  exact Nat.mod_mod_of_dvd x (Nat.pow_dvd_pow 2 (by omega))
theorem pl_div7 {a : Nat} (h : a < 2 ^ 31) : nI a / 7 = nI (a / 7) := pk_div (d := 7) h (by decide) (by decide)
theorem pl_rem7 {a : Nat} (h : a < 2 ^ 31) : nI a - nI a / 7 * 7 = nI (a % 7) := pk_rem (d := 7) h (by decide) (by decide)
theorem pl_put {post : Int64 → Prop} {T : Nat → Nat} {tc p c : Nat} (htc : tc < 21) (hp3 : p < 3) (hT : ∀ j, j < tc → T j < 512) (hc : c < 512) (hp : post (lN (ps_pt (ps_up T tc c) (tc + 1) p))) : wpL_put post () (lN (ps_pt T tc p)) (nI p) (nI tc) (nI c) := by
  have hT' : ∀ j, j < tc + 1 → ps_up T tc c j < 512 := by
    intro j hj
    by_cases e : j = tc
    · rw [e, ps_up_s]
      exact hc
    · rw [ps_up_n e]
      exact hT j (by omega)
  have e9 : (9 : Int32) * nI (tc % 7) = nI (9 * (tc % 7)) := pk_mul 9 _
  refine ⟨by decide, ?_⟩
  rw [pl_rem7 (by omega), pl_div7 (by omega), e9, nI_l (by omega), wb_shl _ (by omega)]
  refine pk_eq (tc / 7) p (fun h => ⟨by decide, ?_⟩) (fun h => ?_)
  · have q := ps_pt_64 (p := p) hT'
    rw [ps_pt_put h] at hp q
    have a := ps_pt_lt (p := p) hT
    rw [show min (tc - 7 * p) 7 = tc % 7 by omega] at a
    rw [g_or' (k := 9 * (tc % 7)) rfl a q]
    exact hp
  · rw [ps_pt_keep h] at hp
    exact hp
theorem pl_code {post : Int32 → Prop} {L : Nat → Nat} {n i : Nat} (hn : n ≤ 8) (hi : i < n) (hL : ∀ j, j < n → L j < 256) (hp : post (nI (L i))) : wpL_lockCode post () (lN (ps_pk L 8 0 n)) (nI i) := by
  have e8 : (8 : Int32) * nI i = nI (8 * i) := pk_mul 8 _
  have hL' : ∀ j, j < n → L (0 + j) < 2 ^ 8 := fun j hj => by rw [Nat.zero_add]; exact hL j hj
  have q := Nat.lt_of_lt_of_le (ps_pk_lt (b := 8) (lo := 0) n hL') (ps_pw (show 8 * n ≤ 64 by omega))
  have g := ps_pk_g (b := 8) (lo := 0) (j := i) n hi hL'
  rw [Nat.zero_add] at g
  refine ek_v (P := post) ?_ hp
  rw [e8, wb_shr q (by omega), lN_i, pl_and _ 8 (by decide) (by decide), g]
theorem pl_codes {L : Nat → Nat} {i c : Nat} (hi : i < 8) (hL : ∀ j, j < i → L j < 256) (hc : c < 256) : lN (ps_pk L 8 0 i) ||| ((nI c).toInt64 <<< ((8 * nI i).toInt64 &&& 63)) = lN (ps_pk (ps_up L i c) 8 0 (i + 1)) := by
  have e8 : (8 : Int32) * nI i = nI (8 * i) := pk_mul 8 _
  have e : ps_pk (ps_up L i c) 8 0 (i + 1) = ps_pk L 8 0 i + c * 2 ^ (8 * i) := by
    rw [ps_pk_s, ps_pk_c (T := L) i (fun j hj => ps_up_n (by omega)), Nat.zero_add, ps_up_s]
  have a := ps_pk_lt (T := L) (b := 8) (lo := 0) i (fun j hj => by rw [Nat.zero_add]; exact hL j hj)
  have b := ps_pk_lt (T := ps_up L i c) (b := 8) (lo := 0) (i + 1) (fun j hj => by
    rw [Nat.zero_add]
    by_cases z : j = i
    · rw [z, ps_up_s]
      exact hc
    · rw [ps_up_n z]
      exact hL j (by omega))
  have q := Nat.lt_of_lt_of_le b (ps_pw (show 8 * (i + 1) ≤ 64 by omega))
  rw [e] at q ⊢
  rw [e8, nI_l (by omega), wb_shl _ (by omega), g_or' (k := 8 * i) rfl a q]
theorem pl_jloop {post : Int32 → Prop} {J : Int32 → Int32 → Int32 → Prop} {x0 x2 x4 : Int64} {x6 x7 x9 : Int32} {R n k i : Nat} (hR : R < 512) (hn : n ≤ 8) (hk : k ≤ 8)
    (hp : J (nI (2 * (R / 2 ^ n) + (if k ≤ ps_cnt R n then 1 else 0))) x9 (nI (i + 1))) :
    ∀ d j, j + d = n → wL_eval_120 post J x0 x2 x4 x6 x7 (nI R) x9 (nI i) (nI k) (nI n) (d + 1) (nI (ps_cnt R j)) (nI j) := by
  intro d
  induction d with
  | zero =>
    intro j hj
    cases (show j = n by omega)
    have hc := ps_cnt_le R n
    refine br_t (nI_le (Nat.le_refl _) (by omega)) (pk_lt (ps_cnt R n) k (fun h => ?_) (fun h => ?_))
    · rw [if_neg (by omega)] at hp
      exact nm_r (px_jv (b := 0) hR hn (by decide)) (nm_r (nI_1 i) hp)
    · rw [if_pos h] at hp
      exact nm_r (px_jv (b := 1) hR hn (by decide)) (nm_r (nI_1 i) hp)
  | succ d ih =>
    intro j hj
    refine br_f (nI_ge (by omega) (by omega)) (nm_r (e' := nI (ps_cnt R (j + 1))) ?_ (nm_r (nI_1 j) (ih (j + 1) (by omega))))
    rw [ps_bit (by omega) (by omega), nI_add]
    rfl
theorem pl_tok {post : Int32 → Prop} {J : Int32 → Int32 → Int32 → Prop} {x0 x2 x4 : Int64} {x6 : Int32} {T : Nat → Nat} {tc s i p : Nat} (hok : ps_ok T tc) (hlk : ps_lk T tc ≤ 8) (htc : tc ≤ 15) (hi : i < tc) (hs : s < 256) (hp : i / 7 = p)
    (n : J (nI (ps_rv T s (i + 1))) (nI (ps_lk T (i + 1))) (nI (i + 1))) : wL_eval_40 post J x0 x2 x4 x6 (nI s) (nI (ps_rv T s i)) (nI (ps_lk T i)) (nI i) (lN (ps_pt T tc p)) := by
  have hT : ∀ j, j < tc → T j < 512 := fun j hj => by
    have := (hok j hj).1
    omega
  have r := ps_rv_lt (s := s) hok i (by omega)
  have q := ps_p8 (Nat.le_trans (ps_dp_lk T i) (Nat.le_trans (ps_lk_le (show i ≤ tc by omega)) hlk))
  have q2 := Nat.le_trans (ps_lk_le (T := T) (show i ≤ tc by omega)) hlk
  have t := hok i (by omega)
  have e9 : (9 : Int32) * nI (i % 7) = nI (9 * (i % 7)) := pk_mul 9 _
  refine ⟨by decide, nm_r (e' := nI (T i)) ?_ ?_⟩
  · rw [pl_rem7 (by omega), e9, wb_shr (ps_pt_64 hT) (by omega), lN_i, pl_and _ 9 (by decide) (by decide)]
    exact congrArg nI (ps_pt_g hT hi hp)
  · refine pk_le 256 (T i) (fun h => ?_) (fun h => ?_)
    · rw [ps_rvJ (by omega), ps_lkJ (by omega)] at n
      refine ⟨by decide, nm_r (e' := nI ((T i - 256) / 8 + 1)) ?_ ⟨by decide, nm_r (e' := nI ((T i - 256) % 8 + 1)) ?_ ⟨_, pl_jloop (by omega) (by omega) (by omega) n _ 0 (Nat.zero_add _)⟩⟩⟩
      · rw [px_sub h, px_div8 (by omega), nI_1]
      · rw [px_sub h, px_rem8 (by omega), nI_1]
    · rw [ps_rvL h, ps_lkL h] at n
      refine nm_r (e' := nI (2 * ps_rv T s i + s / 2 ^ ps_lk T i % 2)) ?_ (nm_r (nI_1 _) (nm_r (nI_1 i) n))
      rw [px_shl1 (by omega), ps_bit (by omega) (by omega), ps_or1 _ _ (ps_b2 _)]
theorem pl_eloop {post : Int32 → Prop} {T : Nat → Nat} {tc s : Nat} (hok : ps_ok T tc) (hlk : ps_lk T tc ≤ 8) (hdp : ps_dp T tc = 1) (htc : tc ≤ 15) (hs : s < 256) (hp : post (ps_i (ps_tr T tc s))) :
    ∀ d i, i + d = tc → wL_eval_9 post (lN (ps_pt T tc 0)) (lN (ps_pt T tc 1)) (lN (ps_pt T tc 2)) (nI tc) (nI s) (d + 1) (nI (ps_rv T s i)) (nI (ps_lk T i)) (nI i) := by
  intro d
  induction d with
  | zero =>
    intro i hi
    cases (show i = tc by omega)
    have r := ps_rv_lt (s := s) hok tc (Nat.le_refl _)
    rw [hdp] at r
    refine br_t (nI_le (Nat.le_refl _) (by omega)) ?_
    rw [pl_and _ 1 (by decide) (by decide)]
    refine pk_eq (ps_rv T s tc % 2 ^ 1) 1 (fun h => ?_) (fun h => ?_) rfl rfl (by omega)
    · rw [ps_tr, decide_eq_true (by omega)] at hp
      exact hp
    · rw [ps_tr, decide_eq_false (by omega)] at hp
      exact hp
  | succ d ih =>
    intro i hi
    have n := ih (i + 1) (by omega)
    refine br_f (nI_ge (by omega) (by omega)) (pk_le 7 i (fun h => pk_le 14 i (fun h2 => ?_) (fun h2 => ?_)) (fun h => ?_))
    · exact pl_tok hok hlk htc (by omega) hs (by omega) n
    · exact pl_tok hok hlk htc (by omega) hs (by omega) n
    · exact pl_tok hok hlk htc (by omega) hs (by omega) n
theorem pl_eval {post : Int32 → Prop} {T : Nat → Nat} {tc s : Nat} (hok : ps_ok T tc) (hlk : ps_lk T tc ≤ 8) (hdp : ps_dp T tc = 1) (htc : tc ≤ 15) (hs : s < 256) (hp : post (ps_i (ps_tr T tc s))) : wpL_eval post () (lN (ps_pt T tc 0)) (lN (ps_pt T tc 1)) (lN (ps_pt T tc 2)) (nI tc) (nI s) :=
  ⟨tc + 1, pl_eloop hok hlk hdp htc hs hp tc 0 (Nat.zero_add _)⟩
theorem pl_cell {post : Int32 → Prop} {L : Nat} {xs : Nat → Int32} {k : Nat} (hL : L < 2 ^ 31) (hk : k < 2 ^ 31) (hp : ∀ r, post r) : wpL_cell post L xs () (nI k) :=
  pk_le L k (fun _ => hp _) (fun h => ⟨vp_in_nI h hL, hp _⟩)
theorem pl_pick {post : Int32 → Prop} {c : Int32} {m : Nat} (h0 : 0 < m) (hm : m < 2 ^ 31) (hp : ∀ j, j < m → post (nI j)) : wpL_pick post () c (nI m) := by
  refine ⟨nI_ne0 h0 hm, ?_⟩
  rw [pk_and c 31 (by decide), pk_rem (Nat.mod_lt _ (by decide)) h0 hm]
  exact hp _ (Nat.mod_lt _ h0)
