theorem px_sub {c : Nat} (h : 256 ≤ c) : nI c - 256 = nI (c - 256) := pk_sub (b := 256) h
theorem px_div8 {a : Nat} (h : a < 2 ^ 31) : nI a / 8 = nI (a / 8) := pk_div (d := 8) h (by decide) (by decide)
theorem px_rem8 {a : Nat} (h : a < 2 ^ 31) : nI a - nI a / 8 * 8 = nI (a % 8) := pk_rem (d := 8) h (by decide) (by decide)
theorem px_div64 {a : Nat} (h : a < 2 ^ 31) : nI a / 64 = nI (a / 64) := pk_div (d := 64) h (by decide) (by decide)
theorem px_rem64 {a : Nat} (h : a < 2 ^ 31) : nI a - nI a / 64 * 64 = nI (a % 64) := pk_rem (d := 64) h (by decide) (by decide)
theorem px_shl1 {a : Nat} (h : a < 2 ^ 30) : nI a <<< ((1 : Int32) &&& 31) = nI (2 * a) := by
  rw [pk_shlN ((1 : Int32) &&& 31) 1 (by decide) (by omega), Nat.mul_comm]
theorem px_jv {R n b : Nat} (hR : R < 512) (hn : n ≤ 8) (hb : b < 2) : ((nI R >>> (nI n &&& 31)) <<< ((1 : Int32) &&& 31)) ||| nI b = nI (2 * (R / 2 ^ n) + b) := by
  have h := ps_dle R n
  rw [ps_shr (by omega) (by omega), px_shl1 (by omega), ps_or1 _ _ hb]
theorem px_jloop {post : Int32 → Prop} {R n k : Nat} (hR : R < 512) (hn : n ≤ 8) (hk : k ≤ 8) (hp : post (nI (2 * (R / 2 ^ n) + (if k ≤ ps_cnt R n then 1 else 0)))) :
    ∀ d i, i + d = n → wX_joinLastRoots_28 post (nI R) (nI k) (nI n) (d + 1) (nI (ps_cnt R i)) (nI i) := by
  intro d
  induction d with
  | zero =>
    intro i hi
    cases (show i = n by omega)
    have hc := ps_cnt_le R n
    refine br_t (nI_le (Nat.le_refl _) (by omega)) (pk_lt (ps_cnt R n) k (fun h => ?_) (fun h => ?_))
    · rw [if_neg (by omega)] at hp
      exact ek_v (P := post) (px_jv (b := 0) hR hn (by decide)) hp
    · rw [if_pos h] at hp
      exact ek_v (P := post) (px_jv (b := 1) hR hn (by decide)) hp
  | succ d ih =>
    intro i hi
    refine br_f (nI_ge (by omega) (by omega)) (nm_r (e' := nI (ps_cnt R (i + 1))) ?_ (nm_r (nI_1 i) (ih (i + 1) (by omega))))
    rw [ps_bit (by omega) (by omega), nI_add]
    rfl
theorem px_join {post : Int32 → Prop} {R c : Nat} (hR : R < 512) (h1 : 256 ≤ c) (h2 : c < 320)
    (hp : post (nI (2 * (R / 2 ^ ((c - 256) % 8 + 1)) + (if (c - 256) / 8 + 1 ≤ ps_cnt R ((c - 256) % 8 + 1) then 1 else 0)))) : wpX_joinLastRoots post () (nI R) (nI c) := by
  refine ⟨by decide, nm_r (e' := nI ((c - 256) / 8 + 1)) ?_ ⟨by decide, nm_r (e' := nI ((c - 256) % 8 + 1)) ?_ ⟨_, px_jloop hR (by omega) (by omega) hp _ 0 (Nat.zero_add _)⟩⟩⟩
  · rw [px_sub h1, px_div8 (by omega), nI_1]
  · rw [px_sub h1, px_rem8 (by omega), nI_1]
section
variable {ml kw hw aw tc lc rc ck : Nat} {xd xe : Int32} {T L : Nat → Nat} {aS : Nat → Int32}
theorem px_tloop {post : Int32 → Prop} {s : Nat} (hok : ps_ok T tc) (hlk : ps_lk T tc ≤ 8) (htc : tc ≤ 15) (hs : s < 256) (hp : post (ps_i (ps_tr T tc s))) :
    ∀ d i, i + d = tc → wX_isTrue_7 post (nI s) (nI ml) (nI kw) (nI hw) (nI aw) (nI tc) (nI lc) (nI rc) xd xe (nI ck) (fun j => nI (T j)) (fun j => nI (L j)) aS (d + 1) (nI (ps_rv T s i)) (nI (ps_lk T i)) (nI i) := by
  intro d
  induction d with
  | zero =>
    intro i hi
    cases (show i = tc by omega)
    have r := ps_rv_lt (s := s) hok tc (Nat.le_refl _)
    have q := ps_p8 (Nat.le_trans (ps_dp_lk T tc) hlk)
    refine br_t (nI_le (Nat.le_refl _) (by omega)) (pk_eq (ps_rv T s tc) 1 (fun h => ?_) (fun h => ?_) rfl rfl (by omega))
    · rw [ps_tr, decide_eq_true h] at hp
      exact hp
    · rw [ps_tr, decide_eq_false h] at hp
      exact hp
  | succ d ih =>
    intro i hi
    have r := ps_rv_lt (s := s) hok i (by omega)
    have q := ps_p8 (Nat.le_trans (ps_dp_lk T i) (Nat.le_trans (ps_lk_le (show i ≤ tc by omega)) hlk))
    have q2 := Nat.le_trans (ps_lk_le (T := T) (show i ≤ tc by omega)) hlk
    have t := hok i (by omega)
    have n := ih (i + 1) (by omega)
    refine br_f (nI_ge (by omega) (by omega)) ⟨vp_in_nI (by omega) (by omega), nm_r (e' := nI (T i)) (congrArg (fun j => nI (T j)) (nI_clamp (by omega))) ?_⟩
    refine pk_le 256 (T i) (fun h => ?_) (fun h => ?_)
    · rw [ps_rvJ (by omega), ps_lkJ (by omega)] at n
      exact px_join (by omega) h t.1 (nm_r (nI_1 i) n)
    · rw [ps_rvL h, ps_lkL h] at n
      refine nm_r (e' := nI (2 * ps_rv T s i + s / 2 ^ ps_lk T i % 2)) ?_ (nm_r (nI_1 _) (nm_r (nI_1 i) n))
      rw [px_shl1 (by omega), ps_bit (by omega) (by omega), ps_or1 _ _ (ps_b2 _)]
theorem px_true {post : Int32 → Prop} {s : Nat} (hok : ps_ok T tc) (hlk : ps_lk T tc ≤ 8) (htc : tc ≤ 15) (hs : s < 256) (hp : post (ps_i (ps_tr T tc s))) : wpX_isTrue post (nI ml, nI kw, nI hw, nI aw, nI tc, nI lc, nI rc, xd, xe, nI ck, (fun j => nI (T j)), (fun j => nI (L j)), aS) (nI s) :=
  ⟨tc + 1, px_tloop hok hlk htc hs hp tc 0 (Nat.zero_add _)⟩
end
