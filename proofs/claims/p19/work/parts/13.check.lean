theorem pl_shr6 {n : Nat} (h : n < 2 ^ 31) : nI n >>> ((6 : Int32) &&& 31) = nI (n / 64) := pk_shrN h _ 6 (by decide)
theorem pl_and63 (n : Nat) : nI n &&& 63 = nI (n % 64) := pl_and n 6 (by decide) (by decide)
theorem pl_ne1 {a : Nat} (h : a < 2 ^ 31) : ¬ nI a = -1 := fun e => nI_pos h (by rw [e]; decide)
theorem pl_evbit {e : Int32} {n : Nat} (hn : n < 32) (h : bt e n = true) : ¬ ((e >>> (nI n &&& 31)) &&& 1) = 0 := by
  intro z
  have q : bt ((e >>> (nI n &&& 31)) &&& 1) 0 = false := by
    rw [z]
    exact b_0 0
  rw [b_and, b_sshr n hn e (by decide), Nat.add_zero, if_pos hn, h] at q
  exact absurd q (by decide)
theorem ps_ow_mono {L : Nat → Nat} {e : Int32} {t t' i : Nat} (ht : t ≤ t') (h : ps_ow L e t i = true) : ps_ow L e t' i = true := by
  unfold ps_ow at h ⊢
  by_cases z : L i / 64 = 3
  · rw [if_pos z] at h ⊢
    have := of_decide_eq_true h
    exact decide_eq_true (by omega)
  · rw [if_neg z] at h ⊢
    exact h
section
variable {post : Int32 → Prop} {N : Nat} {xs : Nat → Int32} {J63 : Int32 → Int32 → Int32 → Int32 → Int32 → Int32 → Int32 → Int32 → Int32 → Int32 → Int32 → Int32 → (Nat → Int32) → (Nat → Int32) → (Nat → Int32) → Prop} {J467 : Int32 → Int32 → Int32 → Int32 → Int32 → Int32 → Int32 → Int32 → Int32 → Int32 → Int32 → Int32 → Int32 → (Nat → Int32) → (Nat → Int32) → (Nat → Int32) → Prop} {J957 : Int32 → Int32 → Int32 → Int32 → Prop} {x1 ev : Int32} {k en st kc ks : Nat}
variable {ml kw hw aw tc lc rc ck : Nat} {xd xe : Int32} {T L S : Nat → Nat} {aS : Nat → Int32}
theorem pc_1228 {fl : Nat} (hok : ps_ok T tc) (hlk : ps_lk T tc ≤ 8) (hdp : ps_dp T tc = 1) (htc : tc ≤ 15) (hlc : lc ≤ 8) (hfl : fl < 256) (hmn : ∀ i, i < lc → fl / 2 ^ i % 2 = 1 → ps_tr T tc (fl - 2 ^ i) = false) (hJ : J467 (nI k) ev (nI (st + 1)) (nI ml) (nI kw) (nI hw) (nI aw) (nI tc) (nI lc) (nI rc) xd xe (nI ck) (fun j => nI (T j)) (fun j => nI (L j)) aS) :
    ∀ d j, j + d = lc → wL_law_1228 post N xs J63 J467 x1 (nI k) ev (nI lc) (lN (ps_pt T tc 0)) (lN (ps_pt T tc 1)) (lN (ps_pt T tc 2)) (lN (ps_pk L 8 0 lc)) (nI tc) (nI en) (nI st) (nI fl) kc ks (nI ml) (nI kw) (nI hw) (nI aw) (nI tc) (nI lc) (nI rc) xd xe (nI ck) (fun j => nI (T j)) (fun j => nI (L j)) aS (d + 1) (nI j) := by
  intro d
  induction d with
  | zero =>
    intro j hj
    cases (show j = lc by omega)
    exact br_t (nI_le (Nat.le_refl _) (by omega)) (nm_r (nI_1 st) hJ)
  | succ d ih =>
    intro j hj
    have n := ih (j + 1) (by omega)
    refine br_f (nI_ge (by omega) (by omega)) ?_
    rw [ps_bit (by omega) (by omega)]
    have b := ps_b2 (fl / 2 ^ j)
    refine pk_eq (fl / 2 ^ j % 2) 1 (fun z => ?_) (fun z => nm_r (nI_1 j) n) rfl rfl (by omega)
    rw [ps_clr fl hfl j (by omega) z]
    refine pl_eval hok hlk hdp htc (Nat.lt_of_le_of_lt (Nat.sub_le _ _) hfl) ?_
    rw [hmn j (by omega) z]
    exact br_t rfl (nm_r (nI_1 j) n)
theorem pc_1196 {fl v : Nat} {ex : Bool} (hok : ps_ok T tc) (hlk : ps_lk T tc ≤ 8) (hdp : ps_dp T tc = 1) (htc : tc ≤ 15) (hlc : lc ≤ 8) (hfl : fl < 256) (hv5 : v < 5) (H : v = 1 → ex = true ∧ ps_mn (ps_tr T tc) lc fl = true) (hJ : J467 (nI k) ev (nI (st + 1)) (nI ml) (nI kw) (nI hw) (nI aw) (nI tc) (nI lc) (nI rc) xd xe (nI ck) (fun j => nI (T j)) (fun j => nI (L j)) aS) :
    wL_law_1196 post N xs J63 J467 x1 (nI k) ev (nI lc) (lN (ps_pt T tc 0)) (lN (ps_pt T tc 1)) (lN (ps_pt T tc 2)) (lN (ps_pk L 8 0 lc)) (nI tc) (nI en) (nI st) (nI v) (nI fl) (ps_i ex) kc ks (nI ml) (nI kw) (nI hw) (nI aw) (nI tc) (nI lc) (nI rc) xd xe (nI ck) (fun j => nI (T j)) (fun j => nI (L j)) aS := by
  refine pk_eq v 1 (fun q => ?_) (fun q => nm_r (nI_1 st) hJ)
  obtain ⟨h1, h2⟩ := H q
  rw [ps_mn, Bool.and_eq_true] at h2
  rw [h1]
  refine br_f (by decide) (pl_eval hok hlk hdp htc hfl ?_)
  rw [h2.1]
  exact br_f (by decide) ⟨lc + 1, pc_1228 hok hlk hdp htc hlc hfl (fun i hi hb => ps_mnA_e lc h2.2 hi hb) hJ lc 0 (Nat.zero_add _)⟩
theorem pc_1162 {fl v : Nat} {ex sat can z : Bool} {r : Int32} (hok : ps_ok T tc) (hlk : ps_lk T tc ≤ 8) (hdp : ps_dp T tc = 1) (htc : tc ≤ 15) (hlc : lc ≤ 8) (hfl : fl < 256) (hv5 : v < 5) (H : v = 1 → ex = true ∧ ps_mn (ps_tr T tc) lc fl = true)
    (hz : ¬ z = can) (H2 : sat = true → (can = true → (1 : Int32) ≤ r) ∧ (can = false → r = -1)) (hJ : J467 (nI k) ev (nI (st + 1)) (nI ml) (nI kw) (nI hw) (nI aw) (nI tc) (nI lc) (nI rc) xd xe (nI ck) (fun j => nI (T j)) (fun j => nI (L j)) aS) :
    wL_law_1162 post N xs J63 J467 x1 (nI k) ev (nI lc) (lN (ps_pt T tc 0)) (lN (ps_pt T tc 1)) (lN (ps_pt T tc 2)) (lN (ps_pk L 8 0 lc)) (nI tc) (nI en) (nI st) (ps_i sat) r (nI v) (nI fl) (ps_i ex) (ps_i can) (ps_i z) kc ks (nI ml) (nI kw) (nI hw) (nI aw) (nI tc) (nI lc) (nI rc) xd xe (nI ck) (fun j => nI (T j)) (fun j => nI (L j)) aS := by
  have g := pc_1196 (post := post) (N := N) (xs := xs) (J63 := J63) (J467 := J467) (x1 := x1) (ev := ev) (k := k) (en := en) (st := st) (kc := kc) (ks := ks) (ml := ml) (kw := kw) (hw := hw) (aw := aw) (rc := rc) (ck := ck) (xd := xd) (xe := xe) (aS := aS) (L := L) hok hlk hdp htc hlc hfl hv5 H hJ
  refine br_f (fun q => hz (ps_i_inj.mp q)) (ek_if (ps_i0 sat) (fun _ => g) (fun q => ek_if (ps_i0 can) (fun c => ?_) (fun c => ?_)))
  · exact br_t ((H2 (ps_nt q)).2 c) g
  · exact br_t ((H2 (ps_nt q)).1 (ps_nt c)) g
theorem pc_1088 {av fi j s : Nat} {ex : Bool} {x26 x28 x29 x30 : Int32} (hs : s < 256) (hev : ∀ n, n < 8 → s = 64 + n → bt ev n = true) (hJ : J957 (nI av) (nI fi) (ps_i ex) (nI (j + 1))) :
    wL_law_1088 post N xs J63 J467 J957 x1 (nI k) ev (nI lc) (lN (ps_pt T tc 0)) (lN (ps_pt T tc 1)) (lN (ps_pt T tc 2)) (lN (ps_pk L 8 0 lc)) (nI tc) (nI en) (nI st) x26 x28 x29 x30 (nI av) (nI fi) (ps_i ex) (nI j) (nI s) kc ks (nI ml) (nI kw) (nI hw) (nI aw) (nI tc) (nI lc) (nI rc) xd xe (nI ck) (fun j => nI (T j)) (fun j => nI (L j)) aS := by
  refine pk_lt s 64 (fun _ => nm_r (nI_1 j) hJ) (fun q => pk_le 72 s (fun _ => nm_r (nI_1 j) hJ) (fun q2 => ?_))
  have e : nI s - 64 = nI (s - 64) := pk_sub (b := 64) q
  rw [e]
  exact br_f (pl_evbit (by omega) (hev (s - 64) (by omega) (by omega))) (nm_r (nI_1 j) hJ)
theorem pc_1054 {av j : Nat} {x26 x28 x29 x30 : Int32} (hj : j < lc) (hlc : lc ≤ 8) (hl : ps_fc (L j)) (hs : S j < 256) (hev : ∀ n, n < 8 → S j = 64 + n → bt ev n = true) (hJ : J957 (nI av) (nI (ps_mk (ps_fl S) (j + 1))) (ps_i (!ps_ex (ps_wr L S ck) (j + 1))) (nI (j + 1))) :
    wL_law_1054 post N xs J63 J467 J957 x1 (nI k) ev (nI lc) (lN (ps_pt T tc 0)) (lN (ps_pt T tc 1)) (lN (ps_pt T tc 2)) (lN (ps_pk L 8 0 lc)) (nI tc) (nI en) (nI st) x26 x28 x29 x30 (nI av) (nI (ps_mk (ps_fl S) j)) (ps_i (!ps_ex (ps_wr L S ck) j)) (nI j) (nI (L j)) (nI (S j)) (ps_i (decide (L j / 64 = 3))) (ps_i (decide (L j % 64 ≤ ck))) kc ks (nI ml) (nI kw) (nI hw) (nI aw) (nI tc) (nI lc) (nI rc) xd xe (nI ck) (fun j => nI (T j)) (fun j => nI (L j)) aS := by
  have l2 := hl.2.1
  refine pk_eq (S j) 0 (fun z => ?_) (fun z => ?_)
  · have f : ps_fl S j = false := decide_eq_false (not_not_intro z)
    rw [ps_mkF f, ps_exF (by rw [ps_wr, f, Bool.false_and])] at hJ
    exact pc_1088 hs hev hJ
  · have f : ps_fl S j = true := decide_eq_true z
    rw [ps_mkT f] at hJ
    refine nm_r (px_set (by omega)) (pk_eq (S j) (L j) (fun q => ?_) (fun q => ?_))
    · by_cases t : L j / 64 = 3
      · by_cases o : L j % 64 ≤ ck
        · have ft : ps_ft L S ck j = true := by rw [ps_ft, decide_eq_true q, decide_eq_true o, Bool.or_true]; rfl
          rw [ps_exF (by rw [ps_wr, ft, Bool.not_true, Bool.and_false])] at hJ
          rw [decide_eq_true t, decide_eq_true o]
          exact br_f (by decide) (br_f (by decide) (pc_1088 hs hev hJ))
        · have ft : ps_ft L S ck j = false := by rw [ps_ft, decide_eq_false o, decide_eq_false (not_not_intro t), Bool.or_false, Bool.and_false]
          rw [ps_exT (by rw [ps_wr, ft, f]; rfl)] at hJ
          rw [decide_eq_true t, decide_eq_false o]
          exact br_f (by decide) (br_t (by decide) (pc_1088 (ex := false) hs hev hJ))
      · have ft : ps_ft L S ck j = true := by rw [ps_ft, decide_eq_true q, decide_eq_true t, Bool.true_or]; rfl
        rw [ps_exF (by rw [ps_wr, ft, Bool.not_true, Bool.and_false])] at hJ
        rw [decide_eq_false t]
        exact br_t (by decide) (pc_1088 hs hev hJ)
    · have ft : ps_ft L S ck j = false := by rw [ps_ft, decide_eq_false q, Bool.false_and]
      rw [ps_exT (by rw [ps_wr, ft, f]; rfl)] at hJ
      exact pc_1088 (ex := false) hs hev hJ
theorem pc_1012 {j : Nat} {x26 x28 x29 x30 : Int32} (hj : j < lc) (hlc : lc ≤ 8) (hl : ps_fc (L j)) (hs : S j < 256) (hev : ∀ n, n < 8 → S j = 64 + n → bt ev n = true) (hJ : J957 (nI (ps_mk (ps_ow L xe ck) (j + 1))) (nI (ps_mk (ps_fl S) (j + 1))) (ps_i (!ps_ex (ps_wr L S ck) (j + 1))) (nI (j + 1))) :
    wL_law_1012 post N xs J63 J467 J957 x1 (nI k) ev (nI lc) (lN (ps_pt T tc 0)) (lN (ps_pt T tc 1)) (lN (ps_pt T tc 2)) (lN (ps_pk L 8 0 lc)) (nI tc) (nI en) (nI st) x26 x28 x29 x30 (nI (ps_mk (ps_ow L xe ck) j)) (nI (ps_mk (ps_fl S) j)) (ps_i (!ps_ex (ps_wr L S ck) j)) (nI j) (nI (L j)) (nI (S j)) (ps_i (decide (L j / 64 = 3))) (ps_i (decide (L j % 64 ≤ ck))) kc ks (nI ml) (nI kw) (nI hw) (nI aw) (nI tc) (nI lc) (nI rc) xd xe (nI ck) (fun j => nI (T j)) (fun j => nI (L j)) aS := by
  obtain ⟨l1, l2, l3⟩ := id hl
  by_cases t : L j / 64 = 3
  · refine br_f (by rw [decide_eq_true t]; decide) ?_
    by_cases o : L j % 64 ≤ ck
    · have w : ps_ow L xe ck j = true := by rw [ps_ow, if_pos t, decide_eq_true o]
      rw [ps_mkT w] at hJ
      exact br_f (by rw [decide_eq_true o]; decide) (nm_r (px_set (by omega)) (pc_1054 hj hlc hl hs hev hJ))
    · have w : ps_ow L xe ck j = false := by rw [ps_ow, if_pos t, decide_eq_false o]
      rw [ps_mkF w] at hJ
      exact br_t (by rw [decide_eq_false o]; rfl) (pc_1054 hj hlc hl hs hev hJ)
  · refine br_t (by rw [decide_eq_false t]; rfl) ?_
    rw [pl_shr6 (by omega), pl_and63]
    refine px_holds l1 (by omega) (l3 (by omega)) ?_
    have w : ps_ow L xe ck j = ps_hd xe (L j) := by rw [ps_ow, if_neg t]
    by_cases h : ps_hd xe (L j) = true
    · rw [ps_mkT (w.trans h)] at hJ
      rw [h]
      exact br_t rfl (nm_r (px_set (by omega)) (pc_1054 hj hlc hl hs hev hJ))
    · rw [ps_mkF (w.trans (ps_nf h))] at hJ
      rw [ps_nf h]
      exact br_f (by decide) (pc_1054 hj hlc hl hs hev hJ)
theorem pc_957 {sat : Bool} {r : Int32} {v : Nat} (hd : ¬ xd = 0) (hok : ps_ok T tc) (hlk : ps_lk T tc ≤ 8) (hdp : ps_dp T tc = 1) (htc : tc ≤ 15) (hlc : lc ≤ 8) (hck : ck < 64) (hL : ∀ j, j < lc → ps_fc (L j)) (hS : ∀ j, j < lc → aS j = nI (S j)) (hb : ∀ j, j < lc → S j < 256) (hev : ∀ j, j < lc → ∀ n, n < 8 → S j = 64 + n → bt ev n = true)
    (hv5 : v < 5) (H : v = 1 → (!ps_ex (ps_wr L S ck) lc) = true ∧ ps_mn (ps_tr T tc) lc (ps_mk (ps_fl S) lc) = true)
    (H2 : sat = true → (ps_tr T tc (ps_mk (ps_ow L xe ck) lc) = true → (1 : Int32) ≤ r) ∧ (ps_tr T tc (ps_mk (ps_ow L xe ck) lc) = false → r = -1)) (hJ : J467 (nI k) ev (nI (st + 1)) (nI ml) (nI kw) (nI hw) (nI aw) (nI tc) (nI lc) (nI rc) xd xe (nI ck) (fun j => nI (T j)) (fun j => nI (L j)) aS) :
    ∀ d j, j + d = lc → wL_law_957 post N xs J63 J467 x1 (nI k) ev (nI lc) (lN (ps_pt T tc 0)) (lN (ps_pt T tc 1)) (lN (ps_pt T tc 2)) (lN (ps_pk L 8 0 lc)) (nI tc) (nI en) (nI st) (ps_i sat) r (nI v) (nI ck) kc ks (nI ml) (nI kw) (nI hw) (nI aw) (nI tc) (nI lc) (nI rc) xd xe (nI ck) (fun j => nI (T j)) (fun j => nI (L j)) aS (d + 1) (nI (ps_mk (ps_ow L xe ck) j)) (nI (ps_mk (ps_fl S) j)) (ps_i (!ps_ex (ps_wr L S ck) j)) (nI j) := by
  have h8 := ps_p8 hlc
  intro d
  induction d with
  | zero =>
    intro j hj
    cases (show j = lc by omega)
    refine br_t (nI_le (Nat.le_refl _) (by omega)) (pl_eval hok hlk hdp htc (Nat.lt_of_lt_of_le (ps_mk_lt _ _) h8) (px_earliest hd hok hlk htc hlc hL ?_))
    have fl8 : ps_mk (ps_fl S) lc < 256 := Nat.lt_of_lt_of_le (ps_mk_lt _ _) h8
    have g := fun (z : Bool) (hz : ¬ z = ps_tr T tc (ps_mk (ps_ow L xe ck) lc)) => pc_1162 (post := post) (N := N) (xs := xs) (J63 := J63) (J467 := J467) (x1 := x1) (ev := ev) (k := k) (en := en) (st := st) (kc := kc) (ks := ks) (ml := ml) (kw := kw) (hw := hw) (aw := aw) (rc := rc) (ck := ck) (xd := xd) (xe := xe) (aS := aS) (L := L) hok hlk hdp htc hlc fl8 hv5 H hz H2 hJ
    rcases ps_er_le (P := fun t => ps_tr T tc (ps_mk (ps_ow L xe t) lc)) 64 0 with ⟨e, a1, a2, a3, a4, a5⟩ | ⟨a1, a2⟩
    · rw [a5]
      refine br_f (pl_ne1 (by omega)) (pk_le e ck (fun q => ?_) (fun q => ?_))
      · exact g false (by rw [ps_tr_mono hok hdp (ps_mk_le (fun i _ hi => ps_ow_mono q hi)) a3]; decide)
      · exact g true (by rw [a4 ck (Nat.zero_le _) q]; decide)
    · rw [a2]
      exact br_t rfl (g true (by rw [a1 ck (Nat.zero_le _) (by omega)]; decide))
  | succ d ih =>
    intro j hj
    have n := ih (j + 1) (by omega)
    have l := hL j (by omega)
    obtain ⟨l1, l2, l3⟩ := id l
    refine br_f (nI_ge (by omega) (by omega)) (pl_code hlc (by omega) (fun i hi => (hL i hi).2.1) (px_slot hd (by omega) hlc (hS j (by omega)) ?_))
    have g := pc_1012 (post := post) (N := N) (xs := xs) (J63 := J63) (J467 := J467) (x1 := x1) (ev := ev) (k := k) (en := en) (st := st) (kc := kc) (ks := ks) (ml := ml) (kw := kw) (hw := hw) (aw := aw) (tc := tc) (rc := rc) (ck := ck) (xd := xd) (xe := xe) (T := T) (L := L) (S := S) (aS := aS) (x26 := ps_i sat) (x28 := r) (x29 := nI v) (x30 := nI ck) (j := j) (by omega) hlc l (hb j (by omega)) (hev j (by omega)) n
    have g2 : ∀ zt : Int32, zt = ps_i (decide (L j / 64 = 3)) → wL_law_995 post N xs J63 J467 (wL_law_957 post N xs J63 J467 x1 (nI k) ev (nI lc) (lN (ps_pt T tc 0)) (lN (ps_pt T tc 1)) (lN (ps_pt T tc 2)) (lN (ps_pk L 8 0 lc)) (nI tc) (nI en) (nI st) (ps_i sat) r (nI v) (nI ck) kc ks (nI ml) (nI kw) (nI hw) (nI aw) (nI tc) (nI lc) (nI rc) xd xe (nI ck) (fun j => nI (T j)) (fun j => nI (L j)) aS (d + 1)) x1 (nI k) ev (nI lc) (lN (ps_pt T tc 0)) (lN (ps_pt T tc 1)) (lN (ps_pt T tc 2)) (lN (ps_pk L 8 0 lc)) (nI tc) (nI en) (nI st) (ps_i sat) r (nI v) (nI ck) (nI (ps_mk (ps_ow L xe ck) j)) (nI (ps_mk (ps_fl S) j)) (ps_i (!ps_ex (ps_wr L S ck) j)) (nI j) (nI (L j)) (nI (S j)) zt kc ks (nI ml) (nI kw) (nI hw) (nI aw) (nI tc) (nI lc) (nI rc) xd xe (nI ck) (fun j => nI (T j)) (fun j => nI (L j)) aS := by
      intro zt hzt
      rw [hzt]
      unfold wL_law_995
      rw [pl_and63]
      refine pk_lt ck (L j % 64) (fun q => ?_) (fun q => ?_)
      · rw [decide_eq_false (show ¬ L j % 64 ≤ ck by omega)] at g
        exact g
      · rw [decide_eq_true q] at g
        exact g
    rw [pl_shr6 (by omega)]
    refine pk_eq (L j / 64) 3 (fun q => g2 1 (by rw [decide_eq_true q]; rfl)) (fun q => g2 0 (by rw [decide_eq_false q]; rfl))
theorem pc_906 {sat mal : Bool} {r : Int32} (hd : ¬ xd = 0) (hok : ps_ok T tc) (hlk : ps_lk T tc ≤ 8) (hdp : ps_dp T tc = 1) (htc : tc ≤ 15) (hlc : lc ≤ 8) (hck : ck < 64) (hrc : rc = 1) (hL : ∀ j, j < lc → ps_fc (L j)) (hS : ∀ j, j < lc → aS j = nI (S j)) (hb : ∀ j, j < lc → S j < 256) (hev : ∀ j, j < lc → ∀ n, n < 8 → S j = 64 + n → bt ev n = true)
    (H1 : (sat = true ∨ mal = true) → ¬ r < 1 → ps_sp T L S tc lc ck = 1)
    (H2 : sat = true → (ps_tr T tc (ps_mk (ps_ow L xe ck) lc) = true → (1 : Int32) ≤ r) ∧ (ps_tr T tc (ps_mk (ps_ow L xe ck) lc) = false → r = -1)) (hJ : J467 (nI k) ev (nI (st + 1)) (nI ml) (nI kw) (nI hw) (nI aw) (nI tc) (nI lc) (nI rc) xd xe (nI ck) (fun j => nI (T j)) (fun j => nI (L j)) aS) :
    wL_law_906 post N xs J63 J467 x1 (nI k) ev (nI lc) (lN (ps_pt T tc 0)) (lN (ps_pt T tc 1)) (lN (ps_pt T tc 2)) (lN (ps_pk L 8 0 lc)) (nI tc) (nI en) (nI st) (ps_i sat) (ps_i mal) r kc ks (nI ml) (nI kw) (nI hw) (nI aw) (nI tc) (nI lc) (nI rc) xd xe (nI ck) (fun j => nI (T j)) (fun j => nI (L j)) aS := by
  have hv5 : ps_sp T L S tc lc ck < 5 := by
    unfold ps_sp
    split
    · decide
    · split
      · split <;> decide
      · decide
  have H : ps_sp T L S tc lc ck = 1 → (!ps_ex (ps_wr L S ck) lc) = true ∧ ps_mn (ps_tr T tc) lc (ps_mk (ps_fl S) lc) = true := by
    unfold ps_sp
    intro q
    by_cases c1 : ps_ex (ps_wr L S ck) lc = true
    · rw [if_pos c1] at q
      omega
    · rw [if_neg c1] at q
      by_cases c2 : ps_tr T tc (ps_mk (ps_fl S) lc) = true
      · rw [if_pos c2] at q
        by_cases c3 : ps_mn (ps_tr T tc) lc (ps_mk (ps_fl S) lc) = true
        · exact ⟨by rw [ps_nf c1]; rfl, c3⟩
        · rw [if_neg c3] at q
          omega
      · rw [if_neg c2] at q
        omega
  have g : wL_law_936 post N xs J63 J467 x1 (nI k) ev (nI lc) (lN (ps_pt T tc 0)) (lN (ps_pt T tc 1)) (lN (ps_pt T tc 2)) (lN (ps_pk L 8 0 lc)) (nI tc) (nI en) (nI st) (ps_i sat) r (nI (ps_sp T L S tc lc ck)) kc ks (nI ml) (nI kw) (nI hw) (nI aw) (nI tc) (nI lc) (nI rc) xd xe (nI ck) (fun j => nI (T j)) (fun j => nI (L j)) aS := by
    refine px_status hd (nm_r (e' := nI ck) ?_ ⟨lc + 1, pc_957 hd hok hlk hdp htc hlc hck hL hS hb hev hv5 H H2 hJ lc 0 (Nat.zero_add _)⟩)
    rw [pl_and63, hrc]
    exact congrArg nI (by omega)
  refine px_spend hd hok hlk htc hlc hck hS hb hL (ek_if (ps_i0 sat) (fun q => ek_if (ps_i0 mal) (fun q2 => g) (fun q2 => ?_)) (fun q => ?_))
  · exact br_c (fun _ => g) (fun z => br_t (by rw [H1 (Or.inr (ps_nt q2)) z]; rfl) g)
  · exact br_c (fun _ => g) (fun z => br_t (by rw [H1 (Or.inl (ps_nt q)) z]; rfl) g)
end
