section
variable {ml tc lc rc ck : Nat} {yd : Int32} {T L S : Nat → Nat} {bS bW bH bK : Nat → Int32}
theorem py_mloop {post : Int32 → SY → Prop} {s : Nat} (hok : ps_ok T tc) (hlk : ps_lk T tc ≤ 8) (hdp : ps_dp T tc = 1) (htc : tc ≤ 15) (hs : s < 256) (hp : ∀ K : Nat → Int32, post (ps_i (ps_mn (ps_tr T tc) 8 s)) (nI tc, nI lc, nI rc, nI ck, nI ml, yd, (fun j => nI (T j)), (fun j => nI (L j)), bS, bW, bH, K)) :
    ∀ d i (K : Nat → Int32), i + d = 8 → wY_isMinimal_8 post (nI s) (d + 1) (ps_i (ps_mn (ps_tr T tc) i s)) (nI i) (nI tc) (nI lc) (nI rc) (nI ck) (nI ml) yd (fun j => nI (T j)) (fun j => nI (L j)) bS bW bH K := by
  intro d
  induction d with
  | zero =>
    intro i K hi
    cases (show i = 8 by omega)
    exact br_t (nI_le (a := 8) (b := 8) (Nat.le_refl _) (by decide)) ⟨ps_nb _, hp K⟩
  | succ d ih =>
    intro i K hi
    have n := fun K => ih (i + 1) K (by omega)
    have st : ps_mn (ps_tr T tc) (i + 1) s = (ps_mn (ps_tr T tc) i s && !(decide (s / 2 ^ i % 2 = 1) && ps_tr T tc (s - 2 ^ i))) := by
      show (ps_tr T tc s && (ps_mnA (ps_tr T tc) s i && _)) = _
      rw [← Bool.and_assoc]
      rfl
    refine br_f (nI_ge (b := 8) (by omega) (by decide)) ?_
    rw [ps_bit (by omega) (by omega)]
    have b := ps_b2 (s / 2 ^ i)
    refine pk_eq (s / 2 ^ i % 2) 1 (fun z => ?_) (fun z => ?_) rfl rfl (by omega)
    · rw [ps_clr s hs i (by omega) z]
      refine py_true hok hlk hdp htc (Nat.lt_of_le_of_lt (Nat.sub_le _ _) hs) (fun K' => ?_)
      have n' := n K'
      rw [st, decide_eq_true z] at n'
      by_cases c : ps_tr T tc (s - 2 ^ i) = true
      · rw [c] at n' ⊢
        rw [show (ps_mn (ps_tr T tc) i s && !(true && true)) = false by simp] at n'
        exact br_f (by decide) (nm_r (nI_1 i) n')
      · rw [ps_nf c] at n' ⊢
        rw [show (ps_mn (ps_tr T tc) i s && !(true && false)) = ps_mn (ps_tr T tc) i s by simp] at n'
        exact br_t (by decide) (nm_r (nI_1 i) n')
    · have n' := n K
      rw [st, decide_eq_false z, show (ps_mn (ps_tr T tc) i s && !(false && ps_tr T tc (s - 2 ^ i))) = ps_mn (ps_tr T tc) i s by simp] at n'
      exact nm_r (nI_1 i) n'
theorem py_min {post : Int32 → SY → Prop} {s : Nat} (hok : ps_ok T tc) (hlk : ps_lk T tc ≤ 8) (hdp : ps_dp T tc = 1) (htc : tc ≤ 15) (hs : s < 256) (hp : ∀ K : Nat → Int32, post (ps_i (ps_mn (ps_tr T tc) 8 s)) (nI tc, nI lc, nI rc, nI ck, nI ml, yd, (fun j => nI (T j)), (fun j => nI (L j)), bS, bW, bH, K)) : wpY_isMinimal post (nI tc, nI lc, nI rc, nI ck, nI ml, yd, (fun j => nI (T j)), (fun j => nI (L j)), bS, bW, bH, bK) (nI s) := by
  unfold wpY_isMinimal
  refine py_true hok hlk hdp htc hs (fun K => ⟨9, ?_⟩)
  have z := py_mloop hok hlk hdp htc hs hp 8 0 K rfl
  rw [show ps_mn (ps_tr T tc) 0 s = ps_tr T tc s by simp [ps_mn, ps_mnA]] at z
  exact z
theorem py_wloop {post : Int32 → Prop} {s : Nat} {w : Nat → Nat} (hlc : lc ≤ 8) (hs : s < 2 ^ lc) (hL : ∀ j, j < lc → ps_fc (L j)) (hW : ∀ k, 1 ≤ k → k < 4 → bW k = nI (w k)) (hp : post (nI (ps_wt w L s 8))) :
    ∀ d i, i + d = 8 → wY_weight_4 post (nI s) (nI tc) (nI lc) (nI rc) (nI ck) (nI ml) yd (fun j => nI (T j)) (fun j => nI (L j)) bS bW bH bK (d + 1) (nI (ps_wt w L s i)) (nI i) := by
  have h8 := ps_p8 hlc
  intro d
  induction d with
  | zero =>
    intro i hi
    cases (show i = 8 by omega)
    exact br_t (nI_le (a := 8) (b := 8) (Nat.le_refl _) (by decide)) hp
  | succ d ih =>
    intro i hi
    have n := ih (i + 1) (by omega)
    refine br_f (nI_ge (b := 8) (by omega) (by decide)) ?_
    rw [ps_bit (by omega) (by omega)]
    have b := ps_b2 (s / 2 ^ i)
    refine pk_eq (s / 2 ^ i % 2) 1 (fun z => ?_) (fun z => ?_) rfl rfl (by omega)
    · have il : i < lc := by
        refine Nat.lt_of_not_le fun q => ?_
        rw [ps_hi hs q] at z
        omega
      obtain ⟨l1, l2, l3⟩ := hL i il
      refine ⟨vp_in_nI (by omega) (by omega), by decide, ?_⟩
      rw [nI_clamp (show i < 2 ^ 31 by omega), px_div64 (by omega), nI_clamp (by omega), hW _ (by omega) (by omega)]
      refine ⟨vp_in_nI (by omega) (by omega), nm_r (e' := nI (ps_wt w L s (i + 1))) ?_ (nm_r (nI_1 i) n)⟩
      rw [nI_add]
      refine congrArg nI ?_
      show _ = ps_wt w L s i + (if s / 2 ^ i % 2 = 1 then w (L i / 64) else 0)
      rw [if_pos z]
    · have e : ps_wt w L s (i + 1) = ps_wt w L s i := by
        show ps_wt w L s i + (if s / 2 ^ i % 2 = 1 then w (L i / 64) else 0) = _
        rw [if_neg z]
        rfl
      rw [e] at n
      exact nm_r (nI_1 i) n
theorem py_weight {post : Int32 → Prop} {s : Nat} {w : Nat → Nat} (hlc : lc ≤ 8) (hs : s < 2 ^ lc) (hL : ∀ j, j < lc → ps_fc (L j)) (hW : ∀ k, 1 ≤ k → k < 4 → bW k = nI (w k)) (hp : post (nI (ps_wt w L s lc))) : wpY_weight post (nI tc, nI lc, nI rc, nI ck, nI ml, yd, (fun j => nI (T j)), (fun j => nI (L j)), bS, bW, bH, bK) (nI s) := by
  rw [← ps_wt_8 hs hlc] at hp
  exact ⟨9, py_wloop hlc hs hL hW hp 8 0 rfl⟩
theorem py_hstep {post : Int32 → Prop} {J : Int32 → Int32 → Prop} {p : Nat → Bool} {i : Nat} {x z : Int32} (hi : i < 31) (hz : z = ps_i (p i)) (hJ : J (nI (ps_mk p (i + 1))) (nI (i + 1))) :
    wY_heldSet_63 post J x (nI (ps_mk p i)) (nI i) z (nI tc) (nI lc) (nI rc) (nI ck) (nI ml) yd (fun j => nI (T j)) (fun j => nI (L j)) bS bW bH bK := by
  subst hz
  refine ek_if (ps_i0 (p i)) (fun h => ?_) (fun h => ?_)
  · rw [ps_mkF h] at hJ
    exact nm_r (nI_1 i) hJ
  · rw [ps_mkT (ps_nt h)] at hJ
    exact nm_r (px_set hi) (nm_r (nI_1 i) hJ)
theorem py_hloop {post : Int32 → Prop} {t : Nat} {xe : Int32} (hlc : lc ≤ 8) (ht : t < 64) (hL : ∀ j, j < lc → ps_fc (L j)) (hH : ∀ c, 64 ≤ c → c < 192 → c % 64 < 8 → bH c = ps_i (ps_hd xe c)) (hp : post (nI (ps_mk (ps_ow L xe t) lc))) :
    ∀ d i, i + d = lc → wY_heldSet_4 post (nI t) (nI tc) (nI lc) (nI rc) (nI ck) (nI ml) yd (fun j => nI (T j)) (fun j => nI (L j)) bS bW bH bK (d + 1) (nI (ps_mk (ps_ow L xe t) i)) (nI i) := by
  intro d
  induction d with
  | zero =>
    intro i hi
    cases (show i = lc by omega)
    exact br_c (fun _ => hp) (fun _ => br_t (nI_le (Nat.le_refl _) (by omega)) hp)
  | succ d ih =>
    intro i hi
    have n := ih (i + 1) (by omega)
    obtain ⟨l1, l2, l3⟩ := hL i (by omega)
    refine br_f (nI_ge (b := 8) (by omega) (by decide)) (br_f (nI_ge (by omega) (by omega)) ⟨vp_in_nI (by omega) (by omega), by decide, ?_⟩)
    rw [nI_clamp (show i < 2 ^ 31 by omega), px_rem64 (by omega), px_div64 (by omega)]
    refine pk_eq (L i / 64) 3 (fun h => ⟨vp_in_nI (by omega) (by omega), by decide, pk_lt t (L i % 64) (fun q => ?_) (fun q => ?_)⟩) (fun h => ⟨vp_in_nI (by omega) (by omega), vp_in_nI (by omega) (by omega), ?_⟩)
    · refine py_hstep (p := ps_ow L xe t) (by omega) ?_ n
      rw [ps_ow, if_pos h, decide_eq_false (by omega)]
      rfl
    · refine py_hstep (p := ps_ow L xe t) (by omega) ?_ n
      rw [ps_ow, if_pos h, decide_eq_true q]
      rfl
    · refine py_hstep (p := ps_ow L xe t) (by omega) ?_ n
      rw [ps_ow, if_neg h, nI_clamp (by omega)]
      exact hH _ l1 (by omega) (l3 (by omega))
theorem py_owners {post : Int32 → Prop} {t : Nat} {xe : Int32} (hlc : lc ≤ 8) (ht : t < 64) (hL : ∀ j, j < lc → ps_fc (L j)) (hH : ∀ c, 64 ≤ c → c < 192 → c % 64 < 8 → bH c = ps_i (ps_hd xe c)) (hp : post (nI (ps_mk (ps_ow L xe t) lc))) : wpY_heldSet post (nI tc, nI lc, nI rc, nI ck, nI ml, yd, (fun j => nI (T j)), (fun j => nI (L j)), bS, bW, bH, bK) (nI t) :=
  ⟨lc + 1, py_hloop hlc ht hL hH hp lc 0 (Nat.zero_add _)⟩
theorem py_l0 {post : Int32 → Prop} {J : Int32 → Int32 → Prop} {p : Nat → Bool} {i : Nat} {x3 : Int32} (hi : i < 31) (hJ : J (nI (ps_mk p (i + 1))) (nI (i + 1))) (n : Nat) :
    wY_onlookerSet_64 post J (nI (ps_mk p i)) (nI i) x3 (nI tc) (nI lc) (nI rc) (nI ck) (nI ml) yd (fun j => nI (T j)) (fun j => nI (L j)) bS bW bH bK (n + 1) (ps_i (p i)) (nI 8) := by
  refine br_t (nI_le (Nat.le_refl _) (by decide)) (ek_if (ps_i0 (p i)) (fun h => ?_) (fun h => ?_))
  · rw [ps_mkF h] at hJ
    exact nm_r (nI_1 i) hJ
  · rw [ps_mkT (ps_nt h)] at hJ
    exact nm_r (px_set hi) (nm_r (nI_1 i) hJ)
theorem py_l1 {post : Int32 → Prop} {J : Int32 → Int32 → Prop} {p : Nat → Bool} {i : Nat} {x3 : Int32} (hi : i < 31) (h3 : ¬ x3 = 1) (hJ : J (nI (ps_mk p (i + 1))) (nI (i + 1))) :
    ∀ d j, j + d = 8 → wY_onlookerSet_64 post J (nI (ps_mk p i)) (nI i) x3 (nI tc) (nI lc) (nI rc) (nI ck) (nI ml) yd (fun j => nI (T j)) (fun j => nI (L j)) bS bW bH bK (d + 1) (ps_i (p i)) (nI j) := by
  intro d
  induction d with
  | zero =>
    intro j hj
    cases (show j = 8 by omega)
    exact py_l0 hi hJ 0
  | succ d ih =>
    intro j hj
    exact br_f (nI_ge (b := 8) (by omega) (by decide)) (br_f h3 (nm_r (nI_1 j) (ih (j + 1) (by omega))))
theorem py_l2 {post : Int32 → Prop} {J : Int32 → Int32 → Prop} {p : Nat → Bool} {i : Nat} (hi : i < 8) (hB : ∀ j, j < 8 → bS j = nI (S j)) (hb : ∀ j, j < 8 → S j < 256) (hl : L i < 256) (hpi : p i = ps_ex (ps_in S (L i)) 8) (hJ : J (nI (ps_mk p (i + 1))) (nI (i + 1))) :
    ∀ d j, j + d = 8 → wY_onlookerSet_64 post J (nI (ps_mk p i)) (nI i) (nI 1) (nI tc) (nI lc) (nI rc) (nI ck) (nI ml) yd (fun j => nI (T j)) (fun j => nI (L j)) bS bW bH bK (d + 1) (ps_i (ps_ex (ps_in S (L i)) j)) (nI j) := by
  intro d
  induction d with
  | zero =>
    intro j hj
    cases (show j = 8 by omega)
    rw [← hpi]
    exact py_l0 (by omega) hJ 0
  | succ d ih =>
    intro j hj
    have n := ih (j + 1) (by omega)
    have b := hb j (by omega)
    refine br_f (nI_ge (b := 8) (by omega) (by decide)) (br_t rfl ⟨vp_in_nI (by omega) (by omega), vp_in_nI (by omega) (by omega), ?_⟩)
    rw [nI_clamp (show j < 2 ^ 31 by omega), nI_clamp (show i < 2 ^ 31 by omega), hB j (by omega)]
    refine pk_eq (S j) (L i) (fun h => ?_) (fun h => ?_)
    · rw [ps_exT (p := ps_in S (L i)) (decide_eq_true h)] at n
      exact nm_r (nI_1 j) n
    · rw [ps_exF (p := ps_in S (L i)) (decide_eq_false h)] at n
      exact nm_r (nI_1 j) n
theorem ps_in_8 {c : Nat} (hlc : lc ≤ 8) (hz : ∀ j, lc ≤ j → j < 8 → S j = 0) (hc : 64 ≤ c) : ps_ex (ps_in S c) 8 = ps_ex (ps_in S c) lc :=
  ps_ex_8 hlc (fun i a b => decide_eq_false (by rw [hz i a b]; omega))
theorem py_lloop {post : Int32 → Prop} (hlc : lc ≤ 8) (hck : ck < 64) (hB : ∀ j, j < 8 → bS j = nI (S j)) (hb : ∀ j, j < 8 → S j < 256) (hz : ∀ j, lc ≤ j → j < 8 → S j = 0) (hL : ∀ j, j < lc → ps_fc (L j)) (hp : post (nI (ps_mk (ps_on L S ck lc) lc))) :
    ∀ d i, i + d = lc → wY_onlookerSet_4 post (nI tc) (nI lc) (nI rc) (nI ck) (nI ml) yd (fun j => nI (T j)) (fun j => nI (L j)) bS bW bH bK (d + 1) (nI (ps_mk (ps_on L S ck lc) i)) (nI i) := by
  intro d
  induction d with
  | zero =>
    intro i hi
    cases (show i = lc by omega)
    exact br_c (fun _ => hp) (fun _ => br_t (nI_le (Nat.le_refl _) (by omega)) hp)
  | succ d ih =>
    intro i hi
    have n := ih (i + 1) (by omega)
    obtain ⟨l1, l2, l3⟩ := hL i (by omega)
    refine br_f (nI_ge (b := 8) (by omega) (by decide)) (br_f (nI_ge (by omega) (by omega)) ⟨vp_in_nI (by omega) (by omega), by decide, nm_r (e' := nI (L i / 64)) ?_ ?_⟩)
    · rw [nI_clamp (show i < 2 ^ 31 by omega), px_div64 (by omega)]
    rw [nI_clamp (show i < 2 ^ 31 by omega), px_rem64 (by omega)]
    refine pk_eq (L i / 64) 2 (fun h => ?_) (fun h => pk_eq (L i / 64) 3 (fun h2 => ⟨vp_in_nI (by omega) (by omega), by decide, pk_lt ck (L i % 64) (fun q => ?_) (fun q => ?_)⟩) (fun h2 => ?_))
    · have e : ps_on L S ck lc i = true := by rw [ps_on, if_neg (by omega), if_pos h]
      have g := fun h3 => py_l1 (ml := ml) (tc := tc) (lc := lc) (rc := rc) (ck := ck) (yd := yd) (T := T) (L := L) (bS := bS) (bW := bW) (bH := bH) (bK := bK) (post := post) (p := ps_on L S ck lc) (i := i) (x3 := nI (L i / 64)) (by omega) h3 n 8 0 rfl
      rw [e] at g
      exact ⟨9, g (by rw [h]; decide)⟩
    · have e : ps_on L S ck lc i = false := by rw [ps_on, if_neg (by omega), if_neg h, decide_eq_false (by omega)]
      have g := fun h3 => py_l1 (ml := ml) (tc := tc) (lc := lc) (rc := rc) (ck := ck) (yd := yd) (T := T) (L := L) (bS := bS) (bW := bW) (bH := bH) (bK := bK) (post := post) (p := ps_on L S ck lc) (i := i) (x3 := nI (L i / 64)) (by omega) h3 n 8 0 rfl
      rw [e] at g
      exact ⟨9, g (by rw [h2]; decide)⟩
    · have e : ps_on L S ck lc i = true := by rw [ps_on, if_neg (by omega), if_neg h, decide_eq_true q]
      have g := fun h3 => py_l1 (ml := ml) (tc := tc) (lc := lc) (rc := rc) (ck := ck) (yd := yd) (T := T) (L := L) (bS := bS) (bW := bW) (bH := bH) (bK := bK) (post := post) (p := ps_on L S ck lc) (i := i) (x3 := nI (L i / 64)) (by omega) h3 n 8 0 rfl
      rw [e] at g
      exact ⟨9, g (by rw [h2]; decide)⟩
    · have k1 : L i / 64 = 1 := by omega
      have e : ps_on L S ck lc i = ps_ex (ps_in S (L i)) 8 := by rw [ps_on, if_pos k1, ps_in_8 hlc hz l1]
      rw [k1]
      exact ⟨9, py_l2 (by omega) hB hb l2 e n 8 0 rfl⟩
theorem py_onlook {post : Int32 → Prop} (hlc : lc ≤ 8) (hck : ck < 64) (hB : ∀ j, j < 8 → bS j = nI (S j)) (hb : ∀ j, j < 8 → S j < 256) (hz : ∀ j, lc ≤ j → j < 8 → S j = 0) (hL : ∀ j, j < lc → ps_fc (L j)) (hp : post (nI (ps_mk (ps_on L S ck lc) lc))) : wpY_onlookerSet post (nI tc, nI lc, nI rc, nI ck, nI ml, yd, (fun j => nI (T j)), (fun j => nI (L j)), bS, bW, bH, bK) :=
  ⟨lc + 1, py_lloop hlc hck hB hb hz hL hp lc 0 (Nat.zero_add _)⟩
theorem py_iloop {post : Int32 → Prop} (hB : ∀ j, j < 8 → bS j = nI (S j)) (hb : ∀ j, j < 8 → S j < 256) (hp : post (nI (ps_mk (ps_fl S) 8))) :
    ∀ d i, i + d = 8 → wY_filledSet_4 post (nI tc) (nI lc) (nI rc) (nI ck) (nI ml) yd (fun j => nI (T j)) (fun j => nI (L j)) bS bW bH bK (d + 1) (nI (ps_mk (ps_fl S) i)) (nI i) := by
  intro d
  induction d with
  | zero =>
    intro i hi
    cases (show i = 8 by omega)
    exact br_t (nI_le (a := 8) (b := 8) (Nat.le_refl _) (by decide)) hp
  | succ d ih =>
    intro i hi
    have n := ih (i + 1) (by omega)
    have b := hb i (by omega)
    refine br_f (nI_ge (b := 8) (by omega) (by decide)) ⟨vp_in_nI (by omega) (by omega), ?_⟩
    rw [nI_clamp (by omega), hB i (by omega)]
    refine pk_eq (S i) 0 (fun h => ?_) (fun h => ?_)
    · rw [ps_mkF (p := ps_fl S) (decide_eq_false (not_not_intro h))] at n
      exact nm_r (nI_1 i) n
    · rw [ps_mkT (p := ps_fl S) (decide_eq_true h)] at n
      exact nm_r (px_set (by omega)) (nm_r (nI_1 i) n)
theorem py_filled {post : Int32 → Prop} (hlc : lc ≤ 8) (hB : ∀ j, j < 8 → bS j = nI (S j)) (hb : ∀ j, j < 8 → S j < 256) (hz : ∀ j, lc ≤ j → j < 8 → S j = 0) (hp : post (nI (ps_mk (ps_fl S) lc))) : wpY_filledSet post (nI tc, nI lc, nI rc, nI ck, nI ml, yd, (fun j => nI (T j)), (fun j => nI (L j)), bS, bW, bH, bK) := by
  rw [← ps_mk_8 (p := ps_fl S) hlc (fun i a b => decide_eq_false (not_not_intro (hz i a b)))] at hp
  exact ⟨9, py_iloop hB hb hp 8 0 rfl⟩
theorem py_fits {post : Int32 → Prop} {i : Nat} (hi : i < lc) (hlc : lc ≤ 8) (hck : ck < 64) (hB : bS i = nI (S i)) (hb : S i < 256) (hl : ps_fc (L i)) (hp : post (ps_i (ps_ft L S ck i))) : wpY_fits post (nI tc, nI lc, nI rc, nI ck, nI ml, yd, (fun j => nI (T j)), (fun j => nI (L j)), bS, bW, bH, bK) (nI i) := by
  obtain ⟨l1, l2, l3⟩ := hl
  refine ⟨vp_in_nI (by omega) (by omega), vp_in_nI (by omega) (by omega), ?_⟩
  rw [nI_clamp (by omega), hB, px_rem64 (by omega), px_div64 (by omega)]
  refine pk_eq (S i) (L i) (fun h => ⟨vp_in_nI (by omega) (by omega), by decide, ?_⟩) (fun h => ?_)
  · rw [ps_ft, decide_eq_true h, Bool.true_and] at hp
    refine pk_eq (L i / 64) 3 (fun h2 => ⟨vp_in_nI (by omega) (by omega), by decide, ?_⟩) (fun h2 => ?_)
    · rw [decide_eq_false (not_not_intro h2), Bool.false_or] at hp
      refine pk_lt ck (L i % 64) (fun q => ?_) (fun q => ?_)
      · rw [decide_eq_false (by omega)] at hp
        exact hp
      · rw [decide_eq_true q] at hp
        exact hp
    · rw [decide_eq_true h2, Bool.true_or] at hp
      exact hp
  · rw [ps_ft, decide_eq_false h, Bool.false_and] at hp
    exact hp
end
