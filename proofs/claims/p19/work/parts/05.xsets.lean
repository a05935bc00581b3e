def ps_sb (s f : Nat) : Bool := decide (nI s &&& (nI f ^^^ (-1)) = 0)
theorem ps_sb_lt {s f m : Nat} (hs : s < 2 ^ 31) (hf : f < m) (h : m ≤ s) : ps_sb s f = false := by
  apply decide_eq_false
  intro e
  have := ps_sble hs e
  omega
def ps_fc (c : Nat) : Prop := 64 ≤ c ∧ c < 256 ∧ (c < 192 → c % 64 < 8)
def ps_hd (e : Int32) (c : Nat) : Bool := bt e ((c / 64 - 1) * 8 + c % 64)
theorem ps_1sh : ∀ p, p < 32 → ∀ i, i < 32 → bt ((1 : Int32) <<< (nI p &&& 31)) i = decide (i = p) := by decide +kernel
theorem ps_hd0 (e : Int32) (p : Nat) (hp : p < 32) : (e &&& ((1 : Int32) <<< (nI p &&& 31))) = 0 ↔ bt e p = false := by
  constructor
  · intro h
    have q : bt (e &&& ((1 : Int32) <<< (nI p &&& 31))) p = false := by
      rw [h]
      exact b_0 p
    rw [b_and, ps_1sh p hp p hp, decide_eq_true rfl, Bool.and_true] at q
    exact q
  · intro h
    apply b_ext
    intro i hi
    rw [b_and, ps_1sh p hp i hi, b_0]
    by_cases e2 : i = p
    · rw [e2, h]
      rfl
    · rw [decide_eq_false e2, Bool.and_false]
theorem px_contains {post : Int32 → Prop} {s i : Nat} (hs : s < 2 ^ 31) (hi : i < 32) (hp : post (ps_i (decide (s / 2 ^ i % 2 = 1)))) : wpX_contains post () (nI s) (nI i) := by
  unfold wpX_contains
  rw [ps_bit hs hi]
  have h2 := ps_b2 (s / 2 ^ i)
  refine pk_eq (s / 2 ^ i % 2) 1 (fun h => ?_) (fun h => ?_) rfl rfl (by omega)
  · rw [decide_eq_true h] at hp
    exact hp
  · rw [decide_eq_false h] at hp
    exact hp
theorem px_kind {post : Int32 → Prop} {c : Nat} (hc : c < 2 ^ 31) (hp : post (nI (c / 64))) : wpX_kindOf post () (nI c) :=
  ⟨by decide, ek_v (P := post) (px_div64 hc) hp⟩
theorem px_number {post : Int32 → Prop} {c : Nat} (hc : c < 2 ^ 31) (hp : post (nI (c % 64))) : wpX_numberOf post () (nI c) :=
  ⟨by decide, ek_v (P := post) (px_rem64 hc) hp⟩
theorem px_subset {post : Int32 → Prop} {s f : Nat} (hp : post (ps_i (ps_sb s f))) : wpX_isSubset post () (nI s) (nI f) := by
  refine br_c (fun h => ?_) (fun h => ?_)
  · rw [ps_sb, decide_eq_true h] at hp
    exact hp
  · rw [ps_sb, decide_eq_false h] at hp
    exact hp
theorem px_kn {c : Nat} (h : 64 ≤ c) : (nI (c / 64) - 1) * 8 + nI (c % 64) = nI ((c / 64 - 1) * 8 + c % 64) := by
  have e : nI (c / 64) - 1 = nI (c / 64 - 1) := pk_sub (b := 1) (by omega)
  have e2 : nI (c / 64 - 1) * 8 = nI ((c / 64 - 1) * 8) := pk_mul _ 8
  rw [e, e2, nI_add]
section
variable {ml kw hw aw tc lc rc ck : Nat} {xd xe : Int32} {T L : Nat → Nat} {aS : Nat → Int32}
theorem px_held {post : Int32 → Prop} {c : Nat} (h1 : 64 ≤ c) (h2 : c < 192) (h3 : c % 64 < 8) (hp : post (ps_i (ps_hd xe c))) : wpX_isHeld post (nI ml, nI kw, nI hw, nI aw, nI tc, nI lc, nI rc, xd, xe, nI ck, (fun j => nI (T j)), (fun j => nI (L j)), aS) (nI (c / 64)) (nI (c % 64)) := by
  unfold wpX_isHeld wpX_secretBit
  dsimp only
  rw [px_kn h1]
  refine ek_if (ps_hd0 xe _ (by omega)) (fun h => ?_) (fun h => ?_)
  · rw [ps_hd, h] at hp
    exact hp
  · rw [ps_hd, ps_nt h] at hp
    exact hp
def ps_fs (L : Nat → Nat) (s j : Nat) : Nat := if s / 2 ^ j % 2 = 1 then L j else 0
theorem px_floop {post : St2 → Prop} {s : Nat} (hlc : lc ≤ 8) (hs : s < 2 ^ 31)
    (hp : ∀ a : Nat → Int32, (∀ j, j < lc → a j = nI (ps_fs L s j)) → post (nI ml, nI kw, nI hw, nI aw, nI tc, nI lc, nI rc, xd, xe, nI ck, (fun j => nI (T j)), (fun j => nI (L j)), a)) :
    ∀ d i (a : Nat → Int32), i + d = lc → (∀ j, j < i → a j = nI (ps_fs L s j)) → wX_fillSlots_2 post (nI s) (nI ml) (nI kw) (nI hw) (nI aw) (nI tc) (nI lc) (nI rc) xd xe (nI ck) (d + 1) (nI i) (fun j => nI (T j)) (fun j => nI (L j)) a := by
  intro d
  induction d with
  | zero =>
    intro i a hi ha
    cases (show i = lc by omega)
    exact br_t (nI_le (Nat.le_refl _) (by omega)) (hp a ha)
  | succ d ih =>
    intro i a hi ha
    refine br_f (nI_ge (by omega) (by omega)) (px_contains hs (by omega) ?_)
    have st : ∀ x : Int32, x = nI (ps_fs L s i) → ∀ j, j < i + 1 → upd a (nI i).toNatClampNeg x j = nI (ps_fs L s j) := by
      intro x hx j hj
      rw [nI_clamp (by omega)]
      by_cases e : j = i
      · rw [e, pk_us, hx]
      · rw [pk_un e]
        exact ha j (by omega)
    by_cases b : s / 2 ^ i % 2 = 1
    · rw [decide_eq_true b]
      refine br_f (by decide) ⟨vp_in_nI (by omega) (by omega), ⟨vp_in_nI (by omega) (by omega), nm_e (nm_r (nI_1 i) (ih (i + 1) _ (by omega) (st _ ?_)))⟩⟩
      rw [ps_fs, if_pos b, nI_clamp (by omega)]
    · rw [decide_eq_false b]
      refine br_t (by decide) ⟨vp_in_nI (by omega) (by omega), nm_e (nm_r (nI_1 i) (ih (i + 1) _ (by omega) (st _ ?_)))⟩
      rw [ps_fs, if_neg b]
      rfl
theorem px_fill {post : St2 → Prop} {s : Nat} (hlc : lc ≤ 8) (hs : s < 2 ^ 31)
    (hp : ∀ a : Nat → Int32, (∀ j, j < lc → a j = nI (ps_fs L s j)) → post (nI ml, nI kw, nI hw, nI aw, nI tc, nI lc, nI rc, xd, xe, nI ck, (fun j => nI (T j)), (fun j => nI (L j)), a)) : wpX_fillSlots post (nI ml, nI kw, nI hw, nI aw, nI tc, nI lc, nI rc, xd, xe, nI ck, (fun j => nI (T j)), (fun j => nI (L j)), aS) (nI s) :=
  ⟨lc + 1, px_floop hlc hs hp lc 0 aS (Nat.zero_add _) (fun j h => absurd h (Nat.not_lt_zero j))⟩
theorem px_set {p : Nat → Bool} {i : Nat} (h : i < 31) : nI (ps_mk p i) ||| ((1 : Int32) <<< (nI i &&& 31)) = nI (ps_mk p i + 2 ^ i) := by
  rw [ps_one i h, ps_orT _ _ (ps_mk_lt p i)]
theorem px_kloop {post : Int32 → Prop} (hlc : lc ≤ 8) (hL : ∀ j, j < lc → ps_fc (L j)) (hp : post (nI (ps_mk (fun i => decide (¬ L i / 64 = 1)) lc))) :
    ∀ d i, i + d = lc → wX_keylessLocks_4 post (nI ml) (nI kw) (nI hw) (nI aw) (nI tc) (nI lc) (nI rc) xd xe (nI ck) (fun j => nI (T j)) (fun j => nI (L j)) aS (d + 1) (nI (ps_mk (fun i => decide (¬ L i / 64 = 1)) i)) (nI i) := by
  intro d
  induction d with
  | zero =>
    intro i hi
    cases (show i = lc by omega)
    exact br_t (nI_le (Nat.le_refl _) (by omega)) hp
  | succ d ih =>
    intro i hi
    have n := ih (i + 1) (by omega)
    have l := hL i (by omega)
    refine br_f (nI_ge (by omega) (by omega)) ⟨vp_in_nI (by omega) (by omega), ?_⟩
    rw [nI_clamp (by omega)]
    refine px_kind (by have := l.2.1; omega) (pk_eq (L i / 64) 1 (fun h => ?_) (fun h => ?_) rfl rfl (by have := l.2.1; omega))
    · rw [ps_mkF (by simp [h])] at n
      exact nm_r (nI_1 i) n
    · rw [ps_mkT (by simp [h])] at n
      exact nm_r (px_set (by omega)) (nm_r (nI_1 i) n)
theorem px_keyless {post : Int32 → Prop} (hlc : lc ≤ 8) (hL : ∀ j, j < lc → ps_fc (L j)) (hp : post (nI (ps_mk (fun i => decide (¬ L i / 64 = 1)) lc))) : wpX_keylessLocks post (nI ml, nI kw, nI hw, nI aw, nI tc, nI lc, nI rc, xd, xe, nI ck, (fun j => nI (T j)), (fun j => nI (L j)), aS) :=
  ⟨lc + 1, px_kloop hlc hL hp lc 0 (Nat.zero_add _)⟩
def ps_ow (L : Nat → Nat) (e : Int32) (t i : Nat) : Bool := if L i / 64 = 3 then decide (L i % 64 ≤ t) else ps_hd e (L i)
theorem px_ostep {post : Int32 → Prop} {J : Int32 → Int32 → Prop} {p : Nat → Bool} {i : Nat} {x : Int32} (hi : i < 31) (hJ : J (nI (ps_mk p (i + 1))) (nI (i + 1))) :
    wX_ownersLocks_62 post J x (nI (ps_mk p i)) (nI i) (ps_i (p i)) (nI ml) (nI kw) (nI hw) (nI aw) (nI tc) (nI lc) (nI rc) xd xe (nI ck) (fun j => nI (T j)) (fun j => nI (L j)) aS := by
  refine ek_if (ps_i0 (p i)) (fun h => ?_) (fun h => ?_)
  · rw [ps_mkF h] at hJ
    exact nm_r (nI_1 i) hJ
  · rw [ps_mkT (ps_nt h)] at hJ
    exact nm_r (px_set hi) (nm_r (nI_1 i) hJ)
theorem px_oloop {post : Int32 → Prop} {t : Nat} (hlc : lc ≤ 8) (ht : t < 64) (hL : ∀ j, j < lc → ps_fc (L j)) (hp : post (nI (ps_mk (ps_ow L xe t) lc))) :
    ∀ d i, i + d = lc → wX_ownersLocks_4 post (nI t) (nI ml) (nI kw) (nI hw) (nI aw) (nI tc) (nI lc) (nI rc) xd xe (nI ck) (fun j => nI (T j)) (fun j => nI (L j)) aS (d + 1) (nI (ps_mk (ps_ow L xe t) i)) (nI i) := by
  intro d
  induction d with
  | zero =>
    intro i hi
    cases (show i = lc by omega)
    exact br_t (nI_le (Nat.le_refl _) (by omega)) hp
  | succ d ih =>
    intro i hi
    have n := ih (i + 1) (by omega)
    have l := hL i (by omega)
    obtain ⟨l1, l2, l3⟩ := l
    refine br_f (nI_ge (by omega) (by omega)) ⟨vp_in_nI (by omega) (by omega), ?_⟩
    rw [nI_clamp (by omega)]
    refine px_kind (by omega) ⟨vp_in_nI (by omega) (by omega), px_number (by omega) (pk_eq (L i / 64) 3 (fun h => ?_) (fun h => ?_))⟩
    · refine pk_lt t (L i % 64) (fun q => ?_) (fun q => ?_)
      · have e : ps_ow L xe t i = false := by
          rw [ps_ow, if_pos h]
          exact decide_eq_false (by omega)
        have g := px_ostep (ml := ml) (kw := kw) (hw := hw) (aw := aw) (tc := tc) (lc := lc) (rc := rc) (ck := ck) (xd := xd) (xe := xe) (T := T) (L := L) (aS := aS) (post := post) (x := nI t) (p := ps_ow L xe t) (i := i) (by omega) n
        rw [e] at g
        exact g
      · have e : ps_ow L xe t i = true := by
          rw [ps_ow, if_pos h]
          exact decide_eq_true q
        have g := px_ostep (ml := ml) (kw := kw) (hw := hw) (aw := aw) (tc := tc) (lc := lc) (rc := rc) (ck := ck) (xd := xd) (xe := xe) (T := T) (L := L) (aS := aS) (post := post) (x := nI t) (p := ps_ow L xe t) (i := i) (by omega) n
        rw [e] at g
        exact g
    · have e : ps_ow L xe t i = ps_hd xe (L i) := by rw [ps_ow, if_neg h]
      refine px_held l1 (by omega) (l3 (by omega)) ?_
      rw [← e]
      exact px_ostep (by omega) n
theorem px_owners {post : Int32 → Prop} {t : Nat} (hlc : lc ≤ 8) (ht : t < 64) (hL : ∀ j, j < lc → ps_fc (L j)) (hp : post (nI (ps_mk (ps_ow L xe t) lc))) : wpX_ownersLocks post (nI ml, nI kw, nI hw, nI aw, nI tc, nI lc, nI rc, xd, xe, nI ck, (fun j => nI (T j)), (fun j => nI (L j)), aS) (nI t) :=
  ⟨lc + 1, px_oloop hlc ht hL hp lc 0 (Nat.zero_add _)⟩
end
