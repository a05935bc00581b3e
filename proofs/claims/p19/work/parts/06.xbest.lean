def ps_w (kw hw aw k : Nat) : Nat := if k = 1 then kw else if k = 2 then hw else aw
section
variable {ml kw hw aw tc lc rc ck : Nat} {xd xe : Int32} {T L : Nat → Nat} {aS : Nat → Int32}
theorem px_wk {post : Int32 → Prop} {k : Nat} (hk : k < 4) (hp : post (nI (ps_w kw hw aw k))) : wpX_weightOfKind post (nI ml, nI kw, nI hw, nI aw, nI tc, nI lc, nI rc, xd, xe, nI ck, (fun j => nI (T j)), (fun j => nI (L j)), aS) (nI k) := by
  refine pk_eq k 1 (fun h => ?_) (fun h => pk_eq k 2 (fun h2 => ?_) (fun h2 => ?_))
  · rw [ps_w, if_pos h] at hp
    exact hp
  · rw [ps_w, if_neg h, if_pos h2] at hp
    exact hp
  · rw [ps_w, if_neg h, if_neg h2] at hp
    exact hp
theorem px_wloop {post : Int32 → Prop} {s : Nat} (hlc : lc ≤ 8) (hs : s < 2 ^ 31) (hL : ∀ j, j < lc → ps_fc (L j)) (hp : post (nI (ps_wt (ps_w kw hw aw) L s lc))) :
    ∀ d i, i + d = lc → wX_weightOf_4 post (nI s) (nI ml) (nI kw) (nI hw) (nI aw) (nI tc) (nI lc) (nI rc) xd xe (nI ck) (fun j => nI (T j)) (fun j => nI (L j)) aS (d + 1) (nI (ps_wt (ps_w kw hw aw) L s i)) (nI i) := by
  intro d
  induction d with
  | zero =>
    intro i hi
    cases (show i = lc by omega)
    exact br_t (nI_le (Nat.le_refl _) (by omega)) hp
  | succ d ih =>
    intro i hi
    have n := ih (i + 1) (by omega)
    obtain ⟨l1, l2, l3⟩ := hL i (by omega)
    refine br_f (nI_ge (by omega) (by omega)) (px_contains hs (by omega) ?_)
    by_cases b : s / 2 ^ i % 2 = 1
    · rw [decide_eq_true b]
      refine br_f (by decide) ⟨vp_in_nI (by omega) (by omega), ?_⟩
      rw [nI_clamp (by omega)]
      refine px_kind (by omega) (px_wk (by omega) (nm_r (e' := nI (ps_wt (ps_w kw hw aw) L s (i + 1))) ?_ (nm_r (nI_1 i) n)))
      rw [nI_add]
      refine congrArg nI ?_
      show _ = ps_wt (ps_w kw hw aw) L s i + (if s / 2 ^ i % 2 = 1 then ps_w kw hw aw (L i / 64) else 0)
      rw [if_pos b]
    · rw [decide_eq_false b]
      have e : ps_wt (ps_w kw hw aw) L s (i + 1) = ps_wt (ps_w kw hw aw) L s i := by
        show ps_wt (ps_w kw hw aw) L s i + (if s / 2 ^ i % 2 = 1 then ps_w kw hw aw (L i / 64) else 0) = _
        rw [if_neg b]
        rfl
      rw [e] at n
      exact br_t (by decide) (nm_r (nI_1 i) n)
theorem px_weight {post : Int32 → Prop} {s : Nat} (hlc : lc ≤ 8) (hs : s < 2 ^ 31) (hL : ∀ j, j < lc → ps_fc (L j)) (hp : post (nI (ps_wt (ps_w kw hw aw) L s lc))) : wpX_weightOf post (nI ml, nI kw, nI hw, nI aw, nI tc, nI lc, nI rc, xd, xe, nI ck, (fun j => nI (T j)), (fun j => nI (L j)), aS) (nI s) :=
  ⟨lc + 1, px_wloop hlc hs hL hp lc 0 (Nat.zero_add _)⟩
theorem ps_w_le (h1 : kw ≤ 99) (h2 : hw ≤ 99) (h3 : aw ≤ 99) : ∀ k, ps_w kw hw aw k ≤ 99 := by
  intro k
  unfold ps_w
  split
  · exact h1
  · split
    · exact h2
    · exact h3
theorem px_better {post : Int32 → Prop} {s o : Nat} (hlc : lc ≤ 8) (hs : s < 2 ^ 31) (ho : o ≤ s) (hL : ∀ j, j < lc → ps_fc (L j)) (h1 : kw ≤ 99) (h2 : hw ≤ 99) (h3 : aw ≤ 99)
    (hp : post (ps_i (decide (ps_wt (ps_w kw hw aw) L s lc < ps_wt (ps_w kw hw aw) L o lc)))) : wpX_isBetter post (nI ml, nI kw, nI hw, nI aw, nI tc, nI lc, nI rc, xd, xe, nI ck, (fun j => nI (T j)), (fun j => nI (L j)), aS) (nI s) (nI o) := by
  unfold wpX_isBetter
  refine px_weight hlc hs hL (px_weight hlc (by omega) hL ?_)
  have b1 := ps_wt_le (L := L) (s := s) (ps_w_le h1 h2 h3) lc
  have b2 := ps_wt_le (L := L) (s := o) (ps_w_le h1 h2 h3) lc
  refine pk_lt _ _ (fun h => ?_) (fun h => ?_) rfl rfl (by omega) (by omega)
  · rw [decide_eq_true h] at hp
    exact hp
  · rw [decide_eq_false (by omega)] at hp
    exact br_c (fun _ => br_t (nI_le ho hs) hp) (fun _ => hp)
theorem px_bloop {post : Int32 → Prop} {f : Nat} (hok : ps_ok T tc) (hlk : ps_lk T tc ≤ 8) (htc : tc ≤ 15) (hlc : lc ≤ 8) (hL : ∀ j, j < lc → ps_fc (L j)) (h1 : kw ≤ 99) (h2 : hw ≤ 99) (h3 : aw ≤ 99)
    (hp : post (nI (ps_bs (fun s => ps_sb s f && ps_tr T tc s) (fun s => ps_wt (ps_w kw hw aw) L s lc) (2 ^ lc)))) :
    ∀ d i, 1 ≤ i → i + d = 2 ^ lc → wX_bestTrueSubset_4 post (nI f) (nI ml) (nI kw) (nI hw) (nI aw) (nI tc) (nI lc) (nI rc) xd xe (nI ck) (fun j => nI (T j)) (fun j => nI (L j)) aS (d + 1) (nI (ps_bs (fun s => ps_sb s f && ps_tr T tc s) (fun s => ps_wt (ps_w kw hw aw) L s lc) i)) (nI i) := by
  have h8 := ps_p8 hlc
  intro d
  induction d with
  | zero =>
    intro i h0 hi
    cases (show i = 2 ^ lc by omega)
    refine br_t ?_ hp
    rw [ps_one lc (by omega)]
    exact nI_le (Nat.le_refl _) (by omega)
  | succ d ih =>
    intro i h0 hi
    have n := ih (i + 1) (by omega) (by omega)
    refine br_f ?_ (px_subset ?_)
    · rw [ps_one lc (by omega)]
      exact nI_ge (by omega) (by omega)
    by_cases c1 : ps_sb i f = true
    · rw [c1]
      refine br_f (by decide) (px_true hok hlk htc (by omega) ?_)
      by_cases c2 : ps_tr T tc i = true
      · rw [c2]
        have g : (fun s => ps_sb s f && ps_tr T tc s) i = true := by
          show (ps_sb i f && ps_tr T tc i) = true
          rw [c1, c2]
          rfl
        have bi := ps_bs_in (fun s => ps_sb s f && ps_tr T tc s) (fun s => ps_wt (ps_w kw hw aw) L s lc) i
        refine br_f (by decide) (pk_eq _ 0 (fun z => ?_) (fun z => ?_) rfl rfl (by omega))
        · rw [ps_bsT g (Or.inl z)] at n
          exact nm_r (nI_1 i) n
        · refine px_better hlc (by omega) (by omega) hL h1 h2 h3 ?_
          by_cases c3 : ps_wt (ps_w kw hw aw) L i lc < ps_wt (ps_w kw hw aw) L (ps_bs (fun s => ps_sb s f && ps_tr T tc s) (fun s => ps_wt (ps_w kw hw aw) L s lc) i) lc
          · rw [decide_eq_true c3]
            rw [ps_bsT g (Or.inr c3)] at n
            exact br_f (by decide) (nm_r (nI_1 i) n)
          · rw [decide_eq_false c3]
            rw [ps_bsN z c3] at n
            exact br_t (by decide) (nm_r (nI_1 i) n)
      · rw [ps_nf c2]
        rw [ps_bsF (by show (ps_sb i f && ps_tr T tc i) = false; rw [ps_nf c2, Bool.and_false])] at n
        exact br_t (by decide) (nm_r (nI_1 i) n)
    · rw [ps_nf c1]
      rw [ps_bsF (by show (ps_sb i f && ps_tr T tc i) = false; rw [ps_nf c1, Bool.false_and])] at n
      exact br_t (by decide) (nm_r (nI_1 i) n)
theorem px_best {post : Int32 → Prop} {f : Nat} (hok : ps_ok T tc) (hlk : ps_lk T tc ≤ 8) (htc : tc ≤ 15) (hlc : lc ≤ 8) (hL : ∀ j, j < lc → ps_fc (L j)) (h1 : kw ≤ 99) (h2 : hw ≤ 99) (h3 : aw ≤ 99)
    (hp : post (nI (ps_bs (fun s => ps_sb s f && ps_tr T tc s) (fun s => ps_wt (ps_w kw hw aw) L s lc) (2 ^ lc)))) : wpX_bestTrueSubset post (nI ml, nI kw, nI hw, nI aw, nI tc, nI lc, nI rc, xd, xe, nI ck, (fun j => nI (T j)), (fun j => nI (L j)), aS) (nI f) := by
  have h8 := ps_p0 lc
  have z := px_bloop (ml := ml) (rc := rc) (ck := ck) (xd := xd) (xe := xe) (aS := aS) hok hlk htc hlc hL h1 h2 h3 hp (2 ^ lc - 1) 1 (Nat.le_refl 1) (by omega)
  rw [ps_bs1] at z
  exact ⟨_, z⟩
theorem px_take {post : Int32 → St2 → Prop} {s : Nat} (hlc : lc ≤ 8) (hs : s < 2 ^ 31) (hL : ∀ j, j < lc → ps_fc (L j))
    (h0 : s = 0 → post (-1) (nI ml, nI kw, nI hw, nI aw, nI tc, nI lc, nI rc, xd, xe, nI ck, (fun j => nI (T j)), (fun j => nI (L j)), aS))
    (hp : ¬ s = 0 → ∀ a : Nat → Int32, (∀ j, j < lc → a j = nI (ps_fs L s j)) → post (nI (ps_wt (ps_w kw hw aw) L s lc)) (nI ml, nI kw, nI hw, nI aw, nI tc, nI lc, nI rc, xd, xe, nI ck, (fun j => nI (T j)), (fun j => nI (L j)), a)) : wpX_takeAsWitness post (nI ml, nI kw, nI hw, nI aw, nI tc, nI lc, nI rc, xd, xe, nI ck, (fun j => nI (T j)), (fun j => nI (L j)), aS) (nI s) := by
  refine pk_eq s 0 (fun z => h0 z) (fun z => ?_)
  exact px_fill hlc hs (fun a ha => px_weight hlc hs hL (hp z a ha))
end
