def ps_in (S : Nat → Nat) (c i : Nat) : Bool := decide (S i = c)
def ps_on (L S : Nat → Nat) (ck lc i : Nat) : Bool := if L i / 64 = 1 then ps_ex (ps_in S (L i)) lc else if L i / 64 = 2 then true else decide (L i % 64 ≤ ck)
def ps_fl (S : Nat → Nat) (i : Nat) : Bool := decide (¬ S i = 0)
def ps_ft (L S : Nat → Nat) (ck i : Nat) : Bool := decide (S i = L i) && (decide (¬ L i / 64 = 3) || decide (L i % 64 ≤ ck))
section
variable {ml kw hw aw tc lc rc ck : Nat} {xd xe : Int32} {T L S : Nat → Nat} {aS : Nat → Int32}
theorem px_sloop {post : Int32 → Prop} {c : Nat} (hlc : lc ≤ 8) (hS : ∀ j, j < lc → aS j = nI (S j)) (hb : ∀ j, j < lc → S j < 256) (hc : c < 256) (hp : post (ps_i (ps_ex (ps_in S c) lc))) :
    ∀ d i, i + d = lc → ps_ex (ps_in S c) i = false → wX_isInSomeSlot_2 post (nI c) (nI ml) (nI kw) (nI hw) (nI aw) (nI tc) (nI lc) (nI rc) xd xe (nI ck) (fun j => nI (T j)) (fun j => nI (L j)) aS (d + 1) (nI i) := by
  intro d
  induction d with
  | zero =>
    intro i hi hm
    cases (show i = lc by omega)
    rw [hm] at hp
    exact br_t (nI_le (Nat.le_refl _) (by omega)) hp
  | succ d ih =>
    intro i hi hm
    have b := hb i (by omega)
    refine br_f (nI_ge (by omega) (by omega)) ⟨vp_in_nI (by omega) (by omega), ?_⟩
    rw [nI_clamp (by omega), hS i (by omega)]
    refine pk_eq (S i) c (fun h => ?_) (fun h => ?_)
    · rw [ps_ex_le (ps_exT (p := ps_in S c) (m := i) (decide_eq_true h)) (show i + 1 ≤ lc by omega)] at hp
      exact hp
    · refine nm_r (nI_1 i) (ih (i + 1) (by omega) ?_)
      rw [ps_exF (p := ps_in S c) (decide_eq_false h)]
      exact hm
theorem px_some {post : Int32 → Prop} {c : Nat} (hlc : lc ≤ 8) (hS : ∀ j, j < lc → aS j = nI (S j)) (hb : ∀ j, j < lc → S j < 256) (hc : c < 256) (hp : post (ps_i (ps_ex (ps_in S c) lc))) : wpX_isInSomeSlot post (nI ml, nI kw, nI hw, nI aw, nI tc, nI lc, nI rc, xd, xe, nI ck, (fun j => nI (T j)), (fun j => nI (L j)), aS) (nI c) :=
  ⟨lc + 1, px_sloop hlc hS hb hc hp lc 0 (Nat.zero_add _) rfl⟩
theorem px_onh {post : Int32 → Prop} {i : Nat} (hlc : lc ≤ 8) (hck : ck < 64) (hS : ∀ j, j < lc → aS j = nI (S j)) (hb : ∀ j, j < lc → S j < 256) (hl : ps_fc (L i)) (hp : post (ps_i (ps_on L S ck lc i))) : wpX_onlookerHas post (nI ml, nI kw, nI hw, nI aw, nI tc, nI lc, nI rc, xd, xe, nI ck, (fun j => nI (T j)), (fun j => nI (L j)), aS) (nI (L i)) := by
  obtain ⟨l1, l2, l3⟩ := hl
  unfold wpX_onlookerHas
  refine px_kind (by omega) (pk_eq (L i / 64) 1 (fun h => ?_) (fun h => ?_))
  · rw [ps_on, if_pos h] at hp
    exact px_some hlc hS hb l2 ⟨ps_nb _, hp⟩
  · rw [ps_on, if_neg h] at hp
    refine pk_eq (L i / 64) 2 (fun h2 => ?_) (fun h2 => ?_)
    · rw [if_pos h2] at hp
      exact hp
    · rw [if_neg h2] at hp
      refine px_number (by omega) (pk_lt ck (L i % 64) (fun q => ?_) (fun q => ?_))
      · rw [decide_eq_false (by omega)] at hp
        exact hp
      · rw [decide_eq_true q] at hp
        exact hp
theorem px_lloop {post : Int32 → Prop} (hlc : lc ≤ 8) (hck : ck < 64) (hS : ∀ j, j < lc → aS j = nI (S j)) (hb : ∀ j, j < lc → S j < 256) (hL : ∀ j, j < lc → ps_fc (L j)) (hp : post (nI (ps_mk (ps_on L S ck lc) lc))) :
    ∀ d i, i + d = lc → wX_onlookersLocks_4 post (nI ml) (nI kw) (nI hw) (nI aw) (nI tc) (nI lc) (nI rc) xd xe (nI ck) (fun j => nI (T j)) (fun j => nI (L j)) aS (d + 1) (nI (ps_mk (ps_on L S ck lc) i)) (nI i) := by
  intro d
  induction d with
  | zero =>
    intro i hi
    cases (show i = lc by omega)
    exact br_t (nI_le (Nat.le_refl _) (by omega)) hp
  | succ d ih =>
    intro i hi
    have n := ih (i + 1) (by omega)
    refine br_f (nI_ge (by omega) (by omega)) ⟨vp_in_nI (by omega) (by omega), ?_⟩
    rw [nI_clamp (by omega)]
    refine px_onh hlc hck hS hb (hL i (by omega)) (ek_if (ps_i0 _) (fun h => ?_) (fun h => ?_))
    · rw [ps_mkF h] at n
      exact nm_r (nI_1 i) n
    · rw [ps_mkT (ps_nt h)] at n
      exact nm_r (px_set (by omega)) (nm_r (nI_1 i) n)
theorem px_onlook {post : Int32 → Prop} (hlc : lc ≤ 8) (hck : ck < 64) (hS : ∀ j, j < lc → aS j = nI (S j)) (hb : ∀ j, j < lc → S j < 256) (hL : ∀ j, j < lc → ps_fc (L j)) (hp : post (nI (ps_mk (ps_on L S ck lc) lc))) : wpX_onlookersLocks post (nI ml, nI kw, nI hw, nI aw, nI tc, nI lc, nI rc, xd, xe, nI ck, (fun j => nI (T j)), (fun j => nI (L j)), aS) :=
  ⟨lc + 1, px_lloop hlc hck hS hb hL hp lc 0 (Nat.zero_add _)⟩
theorem px_iloop {post : Int32 → Prop} (hlc : lc ≤ 8) (hS : ∀ j, j < lc → aS j = nI (S j)) (hb : ∀ j, j < lc → S j < 256) (hp : post (nI (ps_mk (ps_fl S) lc))) :
    ∀ d i, i + d = lc → wX_filledLocks_4 post (nI ml) (nI kw) (nI hw) (nI aw) (nI tc) (nI lc) (nI rc) xd xe (nI ck) (fun j => nI (T j)) (fun j => nI (L j)) aS (d + 1) (nI (ps_mk (ps_fl S) i)) (nI i) := by
  intro d
  induction d with
  | zero =>
    intro i hi
    cases (show i = lc by omega)
    exact br_t (nI_le (Nat.le_refl _) (by omega)) hp
  | succ d ih =>
    intro i hi
    have n := ih (i + 1) (by omega)
    have b := hb i (by omega)
    refine br_f (nI_ge (by omega) (by omega)) ⟨vp_in_nI (by omega) (by omega), ?_⟩
    rw [nI_clamp (by omega), hS i (by omega)]
    refine pk_eq (S i) 0 (fun h => ?_) (fun h => ?_)
    · rw [ps_mkF (p := ps_fl S) (decide_eq_false (not_not_intro h))] at n
      exact nm_r (nI_1 i) n
    · rw [ps_mkT (p := ps_fl S) (decide_eq_true h)] at n
      exact nm_r (px_set (by omega)) (nm_r (nI_1 i) n)
theorem px_filled {post : Int32 → Prop} (hlc : lc ≤ 8) (hS : ∀ j, j < lc → aS j = nI (S j)) (hb : ∀ j, j < lc → S j < 256) (hp : post (nI (ps_mk (ps_fl S) lc))) : wpX_filledLocks post (nI ml, nI kw, nI hw, nI aw, nI tc, nI lc, nI rc, xd, xe, nI ck, (fun j => nI (T j)), (fun j => nI (L j)), aS) :=
  ⟨lc + 1, px_iloop hlc hS hb hp lc 0 (Nat.zero_add _)⟩
theorem px_fits {post : Int32 → Prop} {i : Nat} (hi : i < lc) (hlc : lc ≤ 8) (hck : ck < 64) (hS : aS i = nI (S i)) (hb : S i < 256) (hl : ps_fc (L i)) (hp : post (ps_i (ps_ft L S ck i))) : wpX_lockFits post (nI ml, nI kw, nI hw, nI aw, nI tc, nI lc, nI rc, xd, xe, nI ck, (fun j => nI (T j)), (fun j => nI (L j)), aS) (nI i) := by
  obtain ⟨l1, l2, l3⟩ := hl
  refine ⟨vp_in_nI (by omega) (by omega), nm_r (e' := nI (L i)) (congrArg (fun j => nI (L j)) (nI_clamp (by omega))) ⟨vp_in_nI (by omega) (by omega), ?_⟩⟩
  rw [nI_clamp (by omega), hS]
  refine pk_eq (S i) (L i) (fun h => ?_) (fun h => ?_)
  · rw [ps_ft, decide_eq_true h, Bool.true_and] at hp
    refine px_kind (by omega) (pk_eq (L i / 64) 3 (fun h2 => ?_) (fun h2 => ?_))
    · rw [decide_eq_false (not_not_intro h2), Bool.false_or] at hp
      refine px_number (by omega) (pk_lt ck (L i % 64) (fun q => ?_) (fun q => ?_))
      · rw [decide_eq_false (by omega)] at hp
        exact hp
      · rw [decide_eq_true q] at hp
        exact hp
    · rw [decide_eq_true h2, Bool.true_or] at hp
      exact hp
  · rw [ps_ft, decide_eq_false h, Bool.false_and] at hp
    exact hp
def ps_wr (L S : Nat → Nat) (ck i : Nat) : Bool := ps_fl S i && !ps_ft L S ck i
theorem px_aloop {post : Int32 → Prop} {s : Nat} (hlc : lc ≤ 8) (hs : s < 256) (hbit : ∀ j, j < lc → s / 2 ^ j % 2 = (if ps_fl S j = true then 1 else 0)) (hck : ck < 64) (hS : ∀ j, j < lc → aS j = nI (S j)) (hb : ∀ j, j < lc → S j < 256) (hL : ∀ j, j < lc → ps_fc (L j)) (hp : post (ps_i (!ps_ex (ps_wr L S ck) lc))) :
    ∀ d i, i + d = lc → ps_ex (ps_wr L S ck) i = false → wX_allFit_2 post (nI s) (nI ml) (nI kw) (nI hw) (nI aw) (nI tc) (nI lc) (nI rc) xd xe (nI ck) (fun j => nI (T j)) (fun j => nI (L j)) aS (d + 1) (nI i) := by
  intro d
  induction d with
  | zero =>
    intro i hi hm
    cases (show i = lc by omega)
    rw [hm] at hp
    exact br_t (nI_le (Nat.le_refl _) (by omega)) hp
  | succ d ih =>
    intro i hi hm
    have bi := hbit i (by omega)
    refine br_f (nI_ge (by omega) (by omega)) (px_contains (by omega) (by omega) ?_)
    by_cases f : ps_fl S i = true
    · rw [if_pos f] at bi
      rw [decide_eq_true bi]
      refine br_f (by decide) (px_fits (by omega) hlc hck (hS i (by omega)) (hb i (by omega)) (hL i (by omega)) ?_)
      refine ek_if (ps_i0 _) (fun h => ?_) (fun h => ?_)
      · rw [ps_ex_le (ps_exT (p := ps_wr L S ck) (m := i) (by rw [ps_wr, f, h]; rfl)) (show i + 1 ≤ lc by omega)] at hp
        exact hp
      · refine nm_r (nI_1 i) (ih (i + 1) (by omega) ?_)
        rw [ps_exF (by rw [ps_wr, f, ps_nt h]; rfl)]
        exact hm
    · rw [if_neg f] at bi
      rw [decide_eq_false (by omega)]
      refine br_t (by decide) (nm_r (nI_1 i) (ih (i + 1) (by omega) ?_))
      rw [ps_exF (by rw [ps_wr, ps_nf f]; rfl)]
      exact hm
theorem px_allfit {post : Int32 → Prop} (hlc : lc ≤ 8) (hck : ck < 64) (hS : ∀ j, j < lc → aS j = nI (S j)) (hb : ∀ j, j < lc → S j < 256) (hL : ∀ j, j < lc → ps_fc (L j)) (hp : post (ps_i (!ps_ex (ps_wr L S ck) lc))) : wpX_allFit post (nI ml, nI kw, nI hw, nI aw, nI tc, nI lc, nI rc, xd, xe, nI ck, (fun j => nI (T j)), (fun j => nI (L j)), aS) (nI (ps_mk (ps_fl S) lc)) :=
  ⟨lc + 1, px_aloop hlc (Nat.lt_of_lt_of_le (ps_mk_lt _ _) (ps_p8 hlc)) (fun j hj => ps_mk_b lc hj) hck hS hb hL hp lc 0 (Nat.zero_add _) rfl⟩
def ps_sp (T L S : Nat → Nat) (tc lc ck : Nat) : Nat :=
  if ps_ex (ps_wr L S ck) lc = true then 2 else if ps_tr T tc (ps_mk (ps_fl S) lc) = true then (if ps_mn (ps_tr T tc) lc (ps_mk (ps_fl S) lc) = true then 1 else 4) else 3
theorem px_spend {post : Int32 → Prop} (hd : ¬ xd = 0) (hok : ps_ok T tc) (hlk : ps_lk T tc ≤ 8) (htc : tc ≤ 15) (hlc : lc ≤ 8) (hck : ck < 64) (hS : ∀ j, j < lc → aS j = nI (S j)) (hb : ∀ j, j < lc → S j < 256) (hL : ∀ j, j < lc → ps_fc (L j))
    (hp : post (nI (ps_sp T L S tc lc ck))) : wpX_spend post (nI ml, nI kw, nI hw, nI aw, nI tc, nI lc, nI rc, xd, xe, nI ck, (fun j => nI (T j)), (fun j => nI (L j)), aS) := by
  have h8 : ps_mk (ps_fl S) lc < 256 := Nat.lt_of_lt_of_le (ps_mk_lt _ _) (ps_p8 hlc)
  refine br_f hd (px_filled hlc hS hb (px_allfit hlc hck hS hb hL ?_))
  by_cases c1 : ps_ex (ps_wr L S ck) lc = true
  · rw [ps_sp, if_pos c1] at hp
    rw [c1]
    exact br_t (by decide) hp
  · rw [ps_sp, if_neg c1] at hp
    rw [ps_nf c1]
    refine br_f (by decide) (px_true hok hlk htc h8 ?_)
    by_cases c2 : ps_tr T tc (ps_mk (ps_fl S) lc) = true
    · rw [if_pos c2] at hp
      rw [c2]
      refine br_f (by decide) (px_min hok hlk htc hlc h8 ?_)
      by_cases c3 : ps_mn (ps_tr T tc) lc (ps_mk (ps_fl S) lc) = true
      · rw [if_pos c3] at hp
        rw [c3]
        exact br_f (by decide) hp
      · rw [if_neg c3] at hp
        rw [ps_nf c3]
        exact br_t (by decide) hp
    · rw [if_neg c2] at hp
      rw [ps_nf c2]
      exact br_t (by decide) hp
theorem px_eloop {post : Int32 → Prop} (hok : ps_ok T tc) (hlk : ps_lk T tc ≤ 8) (htc : tc ≤ 15) (hlc : lc ≤ 8) (hL : ∀ j, j < lc → ps_fc (L j)) :
    ∀ d t, t + d = 64 → post (ps_er (fun t => ps_tr T tc (ps_mk (ps_ow L xe t) lc)) d t) → wX_earliest_12 post (nI ml) (nI kw) (nI hw) (nI aw) (nI tc) (nI lc) (nI rc) xd xe (nI ck) (fun j => nI (T j)) (fun j => nI (L j)) aS (d + 1) (nI t) := by
  intro d
  induction d with
  | zero =>
    intro t ht hp
    exact br_t (nI_lt (a := 63) (by omega) (by omega)) hp
  | succ d ih =>
    intro t ht hp
    refine br_f (nI_nlt (b := t) (a := 63) (by omega) (by decide)) (px_owners hlc (by omega) hL (px_true hok hlk htc (Nat.lt_of_lt_of_le (ps_mk_lt _ _) (ps_p8 hlc)) ?_))
    by_cases c : ps_tr T tc (ps_mk (ps_ow L xe t) lc) = true
    · rw [ps_erT (P := fun t => ps_tr T tc (ps_mk (ps_ow L xe t) lc)) c] at hp
      rw [c]
      exact br_f (by decide) hp
    · rw [ps_erF (P := fun t => ps_tr T tc (ps_mk (ps_ow L xe t) lc)) (ps_nf c)] at hp
      rw [ps_nf c]
      exact br_t (by decide) (nm_r (nI_1 t) (ih (t + 1) (by omega) hp))
end
