def ps_bx (m : Nat) : Int32 := if m = 0 then -1 else nI m
section
variable {ml tc lc rc ck : Nat} {yd : Int32} {T L S : Nat → Nat} {bS bW bH bK : Nat → Int32}
theorem py_rfill {post : Int32 → SY → Prop} {s : Nat} {w : Nat → Nat} (hlc : lc ≤ 8) (hs : s < 2 ^ lc) (hL : ∀ j, j < lc → ps_fc (L j)) (hW : ∀ k, 1 ≤ k → k < 4 → bW k = nI (w k))
    (hp : ∀ b : Nat → Int32, (∀ j, j < 8 → b j = nI (ps_fs L s j)) → post (nI (ps_wt w L s lc)) (nI tc, nI lc, nI rc, nI ck, nI ml, yd, (fun j => nI (T j)), (fun j => nI (L j)), b, bW, bH, bK)) :
    ∀ d i (b : Nat → Int32), i + d = 8 → (∀ j, j < i → b j = nI (ps_fs L s j)) → wY_rewrite_106 post (nI s) (nI tc) (nI lc) (nI rc) (nI ck) (nI ml) yd (d + 1) (nI i) (fun j => nI (T j)) (fun j => nI (L j)) b bW bH bK := by
  have h8 := ps_p8 hlc
  intro d
  induction d with
  | zero =>
    intro i b hi hb
    cases (show i = 8 by omega)
    exact br_t (nI_le (a := 8) (b := 8) (Nat.le_refl _) (by decide)) (py_weight hlc hs hL hW (hp b hb))
  | succ d ih =>
    intro i b hi hb
    have st : ∀ x : Int32, x = nI (ps_fs L s i) → ∀ j, j < i + 1 → upd b (nI i).toNatClampNeg x j = nI (ps_fs L s j) := by
      intro x hx j hj
      rw [nI_clamp (by omega)]
      by_cases e : j = i
      · rw [e, pk_us, hx]
      · rw [pk_un e]
        exact hb j (by omega)
    refine br_f (nI_ge (b := 8) (by omega) (by decide)) ?_
    rw [ps_bit (by omega) (by omega)]
    have b2 := ps_b2 (s / 2 ^ i)
    refine pk_eq (s / 2 ^ i % 2) 1 (fun z => ?_) (fun z => ?_) rfl rfl (by omega)
    · refine ⟨vp_in_nI (by omega) (by omega), vp_in_nI (by omega) (by omega), nm_e (nm_r (nI_1 i) (ih (i + 1) _ (by omega) (st _ ?_)))⟩
      rw [ps_fs, if_pos z, nI_clamp (by omega)]
    · refine ⟨vp_in_nI (by omega) (by omega), nm_e (nm_r (nI_1 i) (ih (i + 1) _ (by omega) (st _ ?_)))⟩
      rw [ps_fs, if_neg z]
      rfl
theorem py_rend {post : Int32 → SY → Prop} {m : Nat} {w : Nat → Nat} (hlc : lc ≤ 8) (hs : m < 2 ^ lc) (hL : ∀ j, j < lc → ps_fc (L j)) (hW : ∀ k, 1 ≤ k → k < 4 → bW k = nI (w k))
    (h0 : m = 0 → post (-1) (nI tc, nI lc, nI rc, nI ck, nI ml, yd, (fun j => nI (T j)), (fun j => nI (L j)), bS, bW, bH, bK))
    (hp : ¬ m = 0 → ∀ b : Nat → Int32, (∀ j, j < 8 → b j = nI (ps_fs L m j)) → post (nI (ps_wt w L m lc)) (nI tc, nI lc, nI rc, nI ck, nI ml, yd, (fun j => nI (T j)), (fun j => nI (L j)), b, bW, bH, bK)) :
    ((0 : Int32) ≤ ps_bx m → ∃ n106 : Nat, wY_rewrite_106 post (ps_bx m) (nI tc) (nI lc) (nI rc) (nI ck) (nI ml) yd n106 0 (fun j => nI (T j)) (fun j => nI (L j)) bS bW bH bK) ∧ (¬ (0 : Int32) ≤ ps_bx m → post (-1) (nI tc, nI lc, nI rc, nI ck, nI ml, yd, (fun j => nI (T j)), (fun j => nI (L j)), bS, bW, bH, bK)) := by
  have h8 := ps_p8 hlc
  by_cases z : m = 0
  · rw [ps_bx, if_pos z]
    exact br_f (by decide) (h0 z)
  · rw [ps_bx, if_neg z]
    exact br_t (nI_pos' (by omega)) ⟨9, py_rfill hlc hs hL hW (hp z) 8 0 bS rfl (fun j h => absurd h (Nat.not_lt_zero j))⟩
theorem py_rstep {post : Int32 → SY → Prop} {J : Int32 → Int32 → Int32 → Int32 → Int32 → Int32 → Int32 → Int32 → (Nat → Int32) → (Nat → Int32) → (Nat → Int32) → (Nat → Int32) → (Nat → Int32) → (Nat → Int32) → Prop} {x1 x2 x3 z : Int32} {g : Nat → Bool} {w : Nat → Nat} {i : Nat}
    (hlc : lc ≤ 8) (hL : ∀ j, j < lc → ps_fc (L j)) (hW : ∀ k, 1 ≤ k → k < 4 → bW k = nI (w k)) (hw : ∀ k, w k ≤ 99) (hi : i < 256) (hg0 : g 0 = false) (hg : ∀ s, s < 256 → g s = true → s < 2 ^ lc) (hz : z = ps_i (g i))
    (hJ : J (ps_bx (ps_bs g (fun s => ps_wt w L s lc) (i + 1))) (nI (i + 1)) (nI tc) (nI lc) (nI rc) (nI ck) (nI ml) yd (fun j => nI (T j)) (fun j => nI (L j)) bS bW bH bK) :
    wY_rewrite_59 post J x1 x2 x3 (ps_bx (ps_bs g (fun s => ps_wt w L s lc) i)) (nI i) z (nI tc) (nI lc) (nI rc) (nI ck) (nI ml) yd (fun j => nI (T j)) (fun j => nI (L j)) bS bW bH bK := by
  subst hz
  have h8 := ps_p8 hlc
  refine ek_if (ps_i0 (g i)) (fun h => ?_) (fun h => ?_)
  · rw [ps_bsF h] at hJ
    exact nm_r (nI_1 i) hJ
  · have gi := ps_nt h
    have bi := ps_bs_in g (fun s => ps_wt w L s lc) i
    by_cases e : ps_bs g (fun s => ps_wt w L s lc) i = 0
    · rw [ps_bsT gi (Or.inl e)] at hJ
      rw [ps_bx, if_pos e]
      by_cases e0 : i = 0
      · rw [e0, hg0] at gi
        exact absurd gi (by decide)
      · rw [ps_bx, if_neg e0] at hJ
        exact br_t (by decide) (nm_r (nI_1 i) hJ)
    · have bl : ps_bs g (fun s => ps_wt w L s lc) i < 2 ^ lc := by
        rcases bi with q | q
        · exact absurd q e
        · exact hg _ (by omega) q.2
      have e0 : ¬ i = 0 := by
        intro q
        rw [q] at e
        exact e rfl
      rw [ps_bx, if_neg e]
      have b1 := ps_wt_le (L := L) (s := i) hw lc
      have b2 := ps_wt_le (L := L) (s := ps_bs g (fun s => ps_wt w L s lc) i) hw lc
      refine br_f (nI_pos (by omega)) (py_weight hlc (hg i hi gi) hL hW (py_weight hlc bl hL hW (pk_le _ _ (fun q => ?_) (fun q => ?_) rfl rfl (by omega) (by omega))))
      · rw [ps_bsN e (by show ¬ ps_wt w L i lc < _; omega), ps_bx, if_neg e] at hJ
        exact nm_r (nI_1 i) hJ
      · rw [ps_bsT gi (Or.inr q), ps_bx, if_neg e0] at hJ
        exact nm_r (nI_1 i) hJ
theorem px_ne1 {a : Nat} (h : a < 2 ^ 31) : ¬ nI a = -1 := fun e => nI_pos h (by rw [e]; decide)
theorem py_rloop {post : Int32 → SY → Prop} {f : Nat} {w : Nat → Nat} (hok : ps_ok T tc) (hlk : ps_lk T tc ≤ 8) (hdp : ps_dp T tc = 1) (htc : tc ≤ 15) (hlc : lc ≤ 8) (hL : ∀ j, j < lc → ps_fc (L j)) (hW : ∀ k, 1 ≤ k → k < 4 → bW k = nI (w k)) (hw : ∀ k, w k ≤ 99) (hf : f < 2 ^ lc)
    (h0 : ps_bs (fun s => ps_sb s f && ps_tr T tc s) (fun s => ps_wt w L s lc) (2 ^ lc) = 0 → ∀ K : Nat → Int32, post (-1) (nI tc, nI lc, nI rc, nI ck, nI ml, yd, (fun j => nI (T j)), (fun j => nI (L j)), bS, bW, bH, K))
    (hp : ¬ ps_bs (fun s => ps_sb s f && ps_tr T tc s) (fun s => ps_wt w L s lc) (2 ^ lc) = 0 → ∀ b K : Nat → Int32, (∀ j, j < 8 → b j = nI (ps_fs L (ps_bs (fun s => ps_sb s f && ps_tr T tc s) (fun s => ps_wt w L s lc) (2 ^ lc)) j)) → post (nI (ps_wt w L (ps_bs (fun s => ps_sb s f && ps_tr T tc s) (fun s => ps_wt w L s lc) (2 ^ lc)) lc)) (nI tc, nI lc, nI rc, nI ck, nI ml, yd, (fun j => nI (T j)), (fun j => nI (L j)), b, bW, bH, K)) :
    ∀ d i (K : Nat → Int32), i + d = 256 → wY_rewrite_6 post (nI f) 0 (-1) (d + 1) (ps_bx (ps_bs (fun s => ps_sb s f && ps_tr T tc s) (fun s => ps_wt w L s lc) i)) (nI i) (nI tc) (nI lc) (nI rc) (nI ck) (nI ml) yd (fun j => nI (T j)) (fun j => nI (L j)) bS bW bH K := by
  have h8 := ps_p8 hlc
  have hg : ∀ s, s < 256 → (fun s => ps_sb s f && ps_tr T tc s) s = true → s < 2 ^ lc := by
    intro s hs q
    refine Nat.lt_of_not_le fun q2 => ?_
    have e := ps_sb_lt (s := s) (by omega) hf q2
    simp [e] at q
  have hg0 : (fun s => ps_sb s f && ps_tr T tc s) 0 = false := by simp [ps_tr0]
  intro d
  induction d with
  | zero =>
    intro i K hi
    cases (show i = 256 by omega)
    rw [ps_bs_256 h8 (fun i a b => ps_nf fun q => absurd (hg i b q) (by omega))]
    refine br_t (nI_le (a := 256) (b := 256) (Nat.le_refl _) (by decide)) (py_rend hlc ?_ hL hW (fun z => h0 z K) (fun z b hb => hp z b K hb))
    have bi := ps_bs_in (fun s => ps_sb s f && ps_tr T tc s) (fun s => ps_wt w L s lc) (2 ^ lc)
    have p0 := ps_p0 lc
    omega
  | succ d ih =>
    intro i K hi
    have n := fun K => ih (i + 1) K (by omega)
    refine br_f (nI_ge (b := 256) (by omega) (by decide)) ?_
    refine br_c (fun c1 => ?_) (fun c1 => ?_)
    · have s1 : ps_sb i f = true := decide_eq_true c1
      refine br_f (px_ne1 (by omega)) (br_t rfl (py_true hok hlk hdp htc (by omega) (fun K' => ?_)))
      refine ek_if (ps_i0 _) (fun h => ?_) (fun h => ?_)
      · refine py_rstep hlc hL hW hw (by omega) hg0 hg ?_ (n K')
        rw [h, Bool.and_false]
        rfl
      · refine py_rstep hlc hL hW hw (by omega) hg0 hg ?_ (n K')
        rw [s1, ps_nt h]
        rfl
    · refine py_rstep hlc hL hW hw (by omega) hg0 hg ?_ (n K)
      have s1 : ps_sb i f = false := decide_eq_false c1
      simp [s1]
      rfl
theorem py_rew {post : Int32 → SY → Prop} {f : Nat} {w : Nat → Nat} (hok : ps_ok T tc) (hlk : ps_lk T tc ≤ 8) (hdp : ps_dp T tc = 1) (htc : tc ≤ 15) (hlc : lc ≤ 8) (hL : ∀ j, j < lc → ps_fc (L j)) (hW : ∀ k, 1 ≤ k → k < 4 → bW k = nI (w k)) (hw : ∀ k, w k ≤ 99) (hf : f < 2 ^ lc)
    (h0 : ps_bs (fun s => ps_sb s f && ps_tr T tc s) (fun s => ps_wt w L s lc) (2 ^ lc) = 0 → ∀ K : Nat → Int32, post (-1) (nI tc, nI lc, nI rc, nI ck, nI ml, yd, (fun j => nI (T j)), (fun j => nI (L j)), bS, bW, bH, K))
    (hp : ¬ ps_bs (fun s => ps_sb s f && ps_tr T tc s) (fun s => ps_wt w L s lc) (2 ^ lc) = 0 → ∀ b K : Nat → Int32, (∀ j, j < 8 → b j = nI (ps_fs L (ps_bs (fun s => ps_sb s f && ps_tr T tc s) (fun s => ps_wt w L s lc) (2 ^ lc)) j)) → post (nI (ps_wt w L (ps_bs (fun s => ps_sb s f && ps_tr T tc s) (fun s => ps_wt w L s lc) (2 ^ lc)) lc)) (nI tc, nI lc, nI rc, nI ck, nI ml, yd, (fun j => nI (T j)), (fun j => nI (L j)), b, bW, bH, K)) :
    wpY_rewrite post (nI tc, nI lc, nI rc, nI ck, nI ml, yd, (fun j => nI (T j)), (fun j => nI (L j)), bS, bW, bH, bK) (nI f) 0 (-1) :=
  ⟨257, py_rloop hok hlk hdp htc hlc hL hW hw hf h0 hp 256 0 bK rfl⟩
theorem py_rloopm {post : Int32 → SY → Prop} {f x : Nat} {w : Nat → Nat} (hok : ps_ok T tc) (hlk : ps_lk T tc ≤ 8) (hdp : ps_dp T tc = 1) (htc : tc ≤ 15) (hlc : lc ≤ 8) (hL : ∀ j, j < lc → ps_fc (L j)) (hW : ∀ k, 1 ≤ k → k < 4 → bW k = nI (w k)) (hw : ∀ k, w k ≤ 99) (hf : f < 2 ^ lc) (hx : x < 256)
    (h0 : ps_bs (ps_gm T tc lc f x) (fun s => ps_wt w L s lc) (2 ^ lc) = 0 → ∀ K : Nat → Int32, post (-1) (nI tc, nI lc, nI rc, nI ck, nI ml, yd, (fun j => nI (T j)), (fun j => nI (L j)), bS, bW, bH, K))
    (hp : ¬ ps_bs (ps_gm T tc lc f x) (fun s => ps_wt w L s lc) (2 ^ lc) = 0 → ∀ b K : Nat → Int32, (∀ j, j < 8 → b j = nI (ps_fs L (ps_bs (ps_gm T tc lc f x) (fun s => ps_wt w L s lc) (2 ^ lc)) j)) → post (nI (ps_wt w L (ps_bs (ps_gm T tc lc f x) (fun s => ps_wt w L s lc) (2 ^ lc)) lc)) (nI tc, nI lc, nI rc, nI ck, nI ml, yd, (fun j => nI (T j)), (fun j => nI (L j)), b, bW, bH, K)) :
    ∀ d i (K : Nat → Int32), i + d = 256 → wY_rewrite_6 post (nI f) 1 (nI x) (d + 1) (ps_bx (ps_bs (ps_gm T tc lc f x) (fun s => ps_wt w L s lc) i)) (nI i) (nI tc) (nI lc) (nI rc) (nI ck) (nI ml) yd (fun j => nI (T j)) (fun j => nI (L j)) bS bW bH K := by
  have h8 := ps_p8 hlc
  have hg : ∀ s, s < 256 → (ps_gm T tc lc f x) s = true → s < 2 ^ lc := by
    intro s hs q
    refine Nat.lt_of_not_le fun q2 => ?_
    have e := ps_sb_lt (s := s) (by omega) hf q2
    simp [ps_gm, e] at q
  have hg0 : (ps_gm T tc lc f x) 0 = false := by simp [ps_gm, ps_mn, ps_tr0]
  intro d
  induction d with
  | zero =>
    intro i K hi
    cases (show i = 256 by omega)
    rw [ps_bs_256 h8 (fun i a b => ps_nf fun q => absurd (hg i b q) (by omega))]
    refine br_t (nI_le (a := 256) (b := 256) (Nat.le_refl _) (by decide)) (py_rend hlc ?_ hL hW (fun z => h0 z K) (fun z b hb => hp z b K hb))
    have bi := ps_bs_in (ps_gm T tc lc f x) (fun s => ps_wt w L s lc) (2 ^ lc)
    have p0 := ps_p0 lc
    omega
  | succ d ih =>
    intro i K hi
    have n := fun K => ih (i + 1) K (by omega)
    refine br_f (nI_ge (b := 256) (by omega) (by decide)) ?_
    refine br_c (fun c1 => ?_) (fun c1 => ?_)
    · have s1 : ps_sb i f = true := decide_eq_true c1
      refine pk_eq i x (fun q => ?_) (fun q => ?_)
      · refine py_rstep hlc hL hW hw (by omega) hg0 hg ?_ (n K)
        rw [ps_gm, decide_eq_false (not_not_intro q)]
        rfl
      refine br_f (by decide) (py_min hok hlk hdp htc (by omega) (fun K' => ?_))
      have s2 : ps_mn (ps_tr T tc) 8 i = ps_mn (ps_tr T tc) lc i := by
        rw [ps_mn, ps_mn, ps_mnA_8 (Nat.lt_of_le_of_lt (ps_sble (by omega) c1) hf) hlc]
      refine ek_if (ps_i0 _) (fun h => ?_) (fun h => ?_)
      · refine py_rstep hlc hL hW hw (by omega) hg0 hg ?_ (n K')
        rw [s2] at h
        rw [ps_gm, h, Bool.and_false, Bool.and_false]
        rfl
      · refine py_rstep hlc hL hW hw (by omega) hg0 hg ?_ (n K')
        rw [s2] at h
        rw [ps_gm, s1, ps_nt h, decide_eq_true q]
        rfl
    · refine py_rstep hlc hL hW hw (by omega) hg0 hg ?_ (n K)
      have s1 : ps_sb i f = false := decide_eq_false c1
      simp [ps_gm, s1]
      rfl
theorem py_rewm {post : Int32 → SY → Prop} {f x : Nat} {w : Nat → Nat} (hok : ps_ok T tc) (hlk : ps_lk T tc ≤ 8) (hdp : ps_dp T tc = 1) (htc : tc ≤ 15) (hlc : lc ≤ 8) (hL : ∀ j, j < lc → ps_fc (L j)) (hW : ∀ k, 1 ≤ k → k < 4 → bW k = nI (w k)) (hw : ∀ k, w k ≤ 99) (hf : f < 2 ^ lc) (hx : x < 256)
    (h0 : ps_bs (ps_gm T tc lc f x) (fun s => ps_wt w L s lc) (2 ^ lc) = 0 → ∀ K : Nat → Int32, post (-1) (nI tc, nI lc, nI rc, nI ck, nI ml, yd, (fun j => nI (T j)), (fun j => nI (L j)), bS, bW, bH, K))
    (hp : ¬ ps_bs (ps_gm T tc lc f x) (fun s => ps_wt w L s lc) (2 ^ lc) = 0 → ∀ b K : Nat → Int32, (∀ j, j < 8 → b j = nI (ps_fs L (ps_bs (ps_gm T tc lc f x) (fun s => ps_wt w L s lc) (2 ^ lc)) j)) → post (nI (ps_wt w L (ps_bs (ps_gm T tc lc f x) (fun s => ps_wt w L s lc) (2 ^ lc)) lc)) (nI tc, nI lc, nI rc, nI ck, nI ml, yd, (fun j => nI (T j)), (fun j => nI (L j)), b, bW, bH, K)) :
    wpY_rewrite post (nI tc, nI lc, nI rc, nI ck, nI ml, yd, (fun j => nI (T j)), (fun j => nI (L j)), bS, bW, bH, bK) (nI f) 1 (nI x) :=
  ⟨257, py_rloopm hok hlk hdp htc hlc hL hW hw hf hx h0 hp 256 0 bK rfl⟩
end
