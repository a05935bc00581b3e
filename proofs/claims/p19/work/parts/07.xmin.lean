section
variable {ml kw hw aw tc lc rc ck : Nat} {xd xe : Int32} {T L : Nat → Nat} {aS : Nat → Int32}
theorem px_mloop {post : Int32 → Prop} {s : Nat} (hok : ps_ok T tc) (hlk : ps_lk T tc ≤ 8) (htc : tc ≤ 15) (hlc : lc ≤ 8) (hs : s < 256) (hp : post (ps_i (ps_mnA (ps_tr T tc) s lc))) :
    ∀ d i, i + d = lc → ps_mnA (ps_tr T tc) s i = true → wX_isMinimal_12 post (nI s) (nI ml) (nI kw) (nI hw) (nI aw) (nI tc) (nI lc) (nI rc) xd xe (nI ck) (fun j => nI (T j)) (fun j => nI (L j)) aS (d + 1) (nI i) := by
  intro d
  induction d with
  | zero =>
    intro i hi hm
    cases (show i = lc by omega)
    rw [hm] at hp
    exact br_t (nI_le (Nat.le_refl _) (by omega)) hp
  | succ d ih =>
    intro i hi hm
    have n := ih (i + 1) (by omega)
    have st : ps_mnA (ps_tr T tc) s (i + 1) = !(decide (s / 2 ^ i % 2 = 1) && ps_tr T tc (s - 2 ^ i)) := by
      show (ps_mnA (ps_tr T tc) s i && _) = _
      rw [hm, Bool.true_and]
    refine br_f (nI_ge (by omega) (by omega)) (px_contains (by omega) (by omega) ?_)
    by_cases b : s / 2 ^ i % 2 = 1
    · rw [decide_eq_true b] at st ⊢
      refine br_f (by decide) ?_
      rw [ps_clr s hs i (by omega) b]
      refine px_true hok hlk htc (Nat.lt_of_le_of_lt (Nat.sub_le _ _) hs) ?_
      by_cases c : ps_tr T tc (s - 2 ^ i) = true
      · rw [c] at st ⊢
        rw [ps_mnA_le st (show i + 1 ≤ lc by omega)] at hp
        exact br_f (by decide) hp
      · rw [ps_nf c] at st ⊢
        exact br_t (by decide) (nm_r (nI_1 i) (n st))
    · rw [decide_eq_false b] at st ⊢
      exact br_t (by decide) (nm_r (nI_1 i) (n st))
theorem px_min {post : Int32 → Prop} {s : Nat} (hok : ps_ok T tc) (hlk : ps_lk T tc ≤ 8) (htc : tc ≤ 15) (hlc : lc ≤ 8) (hs : s < 256) (hp : post (ps_i (ps_mn (ps_tr T tc) lc s))) : wpX_isMinimal post (nI ml, nI kw, nI hw, nI aw, nI tc, nI lc, nI rc, xd, xe, nI ck, (fun j => nI (T j)), (fun j => nI (L j)), aS) (nI s) := by
  unfold wpX_isMinimal
  refine px_true hok hlk htc hs ?_
  by_cases c : ps_tr T tc s = true
  · rw [ps_mn, c, Bool.true_and] at hp
    rw [c]
    exact br_f (by decide) ⟨lc + 1, px_mloop hok hlk htc hlc hs hp lc 0 (Nat.zero_add _) rfl⟩
  · rw [ps_mn, ps_nf c, Bool.false_and] at hp
    rw [ps_nf c]
    exact br_t (by decide) hp
def ps_gm (T : Nat → Nat) (tc lc f x s : Nat) : Bool := decide (¬ s = x) && (ps_sb s f && ps_mn (ps_tr T tc) lc s)
theorem px_nloop {post : Int32 → Prop} {f x : Nat} (hok : ps_ok T tc) (hlk : ps_lk T tc ≤ 8) (htc : tc ≤ 15) (hlc : lc ≤ 8) (hL : ∀ j, j < lc → ps_fc (L j)) (h1 : kw ≤ 99) (h2 : hw ≤ 99) (h3 : aw ≤ 99) (hx : x < 256)
    (hp : post (nI (ps_bs (ps_gm T tc lc f x) (fun s => ps_wt (ps_w kw hw aw) L s lc) (2 ^ lc)))) :
    ∀ d i, 1 ≤ i → i + d = 2 ^ lc → wX_bestMinimalSubset_5 post (nI f) (nI x) (nI ml) (nI kw) (nI hw) (nI aw) (nI tc) (nI lc) (nI rc) xd xe (nI ck) (fun j => nI (T j)) (fun j => nI (L j)) aS (d + 1) (nI (ps_bs (ps_gm T tc lc f x) (fun s => ps_wt (ps_w kw hw aw) L s lc) i)) (nI i) := by
  have h8 := ps_p8 hlc
  intro d
  induction d with
  | zero =>
    intro i h0 hi
    cases (show i = 2 ^ lc by omega)
    refine br_t ?_ hp
    rw [ps_one lc (by omega)]
    exact nI_le (Nat.le_refl _) (by omega)
  | succ d ih =>
    intro i h0 hi
    have n := ih (i + 1) (by omega) (by omega)
    refine br_f ?_ (pk_eq i x (fun e => ?_) (fun e => px_subset ?_))
    · rw [ps_one lc (by omega)]
      exact nI_ge (by omega) (by omega)
    · rw [ps_bsF (by rw [ps_gm, decide_eq_false (by omega), Bool.false_and])] at n
      exact nm_r (nI_1 i) n
    by_cases c1 : ps_sb i f = true
    · rw [c1]
      refine br_f (by decide) (px_min hok hlk htc hlc (by omega) ?_)
      by_cases c2 : ps_mn (ps_tr T tc) lc i = true
      · rw [c2]
        have g : ps_gm T tc lc f x i = true := by
          rw [ps_gm, c1, c2, decide_eq_true e]
          rfl
        have bi := ps_bs_in (ps_gm T tc lc f x) (fun s => ps_wt (ps_w kw hw aw) L s lc) i
        refine br_f (by decide) (pk_eq _ 0 (fun z => ?_) (fun z => ?_) rfl rfl (by omega))
        · rw [ps_bsT g (Or.inl z)] at n
          exact nm_r (nI_1 i) n
        · refine px_better hlc (by omega) (by omega) hL h1 h2 h3 ?_
          by_cases c3 : ps_wt (ps_w kw hw aw) L i lc < ps_wt (ps_w kw hw aw) L (ps_bs (ps_gm T tc lc f x) (fun s => ps_wt (ps_w kw hw aw) L s lc) i) lc
          · rw [decide_eq_true c3]
            rw [ps_bsT g (Or.inr c3)] at n
            exact br_f (by decide) (nm_r (nI_1 i) n)
          · rw [decide_eq_false c3]
            rw [ps_bsN z c3] at n
            exact br_t (by decide) (nm_r (nI_1 i) n)
      · rw [ps_nf c2]
        rw [ps_bsF (by rw [ps_gm, ps_nf c2, Bool.and_false, Bool.and_false])] at n
        exact br_t (by decide) (nm_r (nI_1 i) n)
    · rw [ps_nf c1]
      rw [ps_bsF (by rw [ps_gm, ps_nf c1, Bool.false_and, Bool.and_false])] at n
      exact br_t (by decide) (nm_r (nI_1 i) n)
theorem px_bestm {post : Int32 → Prop} {f x : Nat} (hok : ps_ok T tc) (hlk : ps_lk T tc ≤ 8) (htc : tc ≤ 15) (hlc : lc ≤ 8) (hL : ∀ j, j < lc → ps_fc (L j)) (h1 : kw ≤ 99) (h2 : hw ≤ 99) (h3 : aw ≤ 99) (hx : x < 256)
    (hp : post (nI (ps_bs (ps_gm T tc lc f x) (fun s => ps_wt (ps_w kw hw aw) L s lc) (2 ^ lc)))) : wpX_bestMinimalSubset post (nI ml, nI kw, nI hw, nI aw, nI tc, nI lc, nI rc, xd, xe, nI ck, (fun j => nI (T j)), (fun j => nI (L j)), aS) (nI f) (nI x) := by
  have h8 := ps_p0 lc
  have z := px_nloop (ml := ml) (rc := rc) (ck := ck) (xd := xd) (xe := xe) (aS := aS) hok hlk htc hlc hL h1 h2 h3 hx hp (2 ^ lc - 1) 1 (Nat.le_refl 1) (by omega)
  rw [ps_bs1] at z
  exact ⟨_, z⟩
end
