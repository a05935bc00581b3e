theorem px_secok {post : Int32 → Prop} {c : Nat} (h1 : 64 ≤ c) (h2 : c < 192) (h3 : c % 64 < 8) (hp : post 1) : wpX_isSecret post () (nI (c / 64)) (nI (c % 64)) := by
  have g : wX_isSecret_10 post (nI (c % 64)) := br_f (nI_pos (by omega)) (br_f (nI_ge (b := 8) h3 (by decide)) hp)
  refine pk_eq (c / 64) 1 (fun _ => g) (fun q => pk_eq (c / 64) 2 (fun _ => g) (fun q2 => ?_))
  omega
theorem px_fitok {post : Int32 → Prop} {c : Nat} (hc : ps_fc c) (hp : post 1) : wpX_isFitPair post () (nI (c / 64)) (nI (c % 64)) := by
  obtain ⟨h1, h2, h3⟩ := hc
  refine pk_eq (c / 64) 3 (fun _ => ?_) (fun q => ?_)
  · exact br_f (nI_pos (by omega)) (br_f (nI_nlt (a := 63) (b := c % 64) (by omega) (by decide)) hp)
  · exact px_secok h1 (by omega) (h3 (by omega)) ⟨by decide, hp⟩
theorem px_clampok {post : Int32 → Prop} {m a b : Nat} (h1 : a ≤ m) (h2 : m ≤ b) (hb : b < 2 ^ 31) (hp : post (nI m)) : wpX_clamp post () (nI m) (nI a) (nI b) :=
  br_t (nI_le h1 (by omega)) (br_t (nI_le h2 hb) hp)
section
variable {ml kw hw aw tc lc rc ck : Nat} {xd xe : Int32} {T L S : Nat → Nat} {aS : Nat → Int32}
theorem px_lock {post : Int32 → St2 → Prop} {c : Nat} (hd : xd = 0) (hc : ps_fc c) (hl : lc < ml) (hm : ml ≤ 8) (ht : tc < 15)
    (hp : post (nI lc) (nI ml, nI kw, nI hw, nI aw, nI (tc + 1), nI (lc + 1), nI (rc + 1), xd, xe, nI ck, (fun j => nI (ps_up T tc c j)), (fun j => nI (ps_up L lc c j)), aS)) : wpX_lock post (nI ml, nI kw, nI hw, nI aw, nI tc, nI lc, nI rc, xd, xe, nI ck, (fun j => nI (T j)), (fun j => nI (L j)), aS) (nI (c / 64)) (nI (c % 64)) := by
  refine br_t hd (px_fitok hc (br_f (by decide) (br_t (nI_lt hl (by omega)) (px_code ⟨vp_in_nI (by omega) (by omega), nm_r (px_upd (by omega)) (nm_r (nI_1 lc) (nm_r (nI_1 rc) (px_append ht ?_)))⟩))))
  exact hp
theorem px_joinok {post : Int32 → St2 → Prop} {k n : Nat} (hd : xd = 0) (h1 : 1 ≤ k) (h2 : k ≤ n) (h3 : 2 ≤ n) (h4 : n ≤ 8) (h5 : n ≤ rc) (hr : rc ≤ 8) (ht : tc < 15)
    (hp : post (nI (rc - n + 1)) (nI ml, nI kw, nI hw, nI aw, nI (tc + 1), nI lc, nI (rc - n + 1), xd, xe, nI ck, (fun j => nI (ps_up T tc (256 + (k - 1) * 8 + (n - 1)) j)), (fun j => nI (L j)), aS)) : wpX_join post (nI ml, nI kw, nI hw, nI aw, nI tc, nI lc, nI rc, xd, xe, nI ck, (fun j => nI (T j)), (fun j => nI (L j)), aS) (nI k) (nI n) := by
  have ec : (256 + (nI k - 1) * 8) + (nI n - 1) = nI (256 + (k - 1) * 8 + (n - 1)) := by
    have e1 : nI k - 1 = nI (k - 1) := pk_sub (b := 1) (by omega)
    have e2 : nI n - 1 = nI (n - 1) := pk_sub (b := 1) (by omega)
    have e3 : nI (k - 1) * 8 = nI ((k - 1) * 8) := pk_mul _ 8
    have e4 : 256 + nI ((k - 1) * 8) = nI (256 + (k - 1) * 8) := nI_add 256 _
    rw [e1, e2, e3, e4, nI_add]
  have er : (nI rc - nI n) + 1 = nI (rc - n + 1) := by rw [pk_sub h5, nI_1]
  refine br_t hd (br_f (nI_nlt (b := 2) h3 (by omega)) (br_f (nI_nlt (a := 8) (b := n) h4 (by decide)) (br_f (nI_nlt (b := 1) h1 (by omega)) (br_t (nI_le h2 (by omega)) (br_t (nI_le h5 (by omega)) ?_)))))
  rw [ec]
  refine px_append ht (nm_r er ?_)
  exact hp
theorem ps_fs0 (j : Nat) : ps_fs L 0 j = 0 := by
  rw [ps_fs, Nat.zero_div, if_neg (by decide)]
theorem px_seal {post : Int32 → St2 → Prop} (hd : xd = 0) (hr : rc = 1) (hok : ps_ok T tc) (hlk : ps_lk T tc ≤ 8) (htc : tc ≤ 15) (hlc : lc ≤ 8) (hL : ∀ j, j < lc → ps_fc (L j))
    (hp : ∀ (r : Int32) (a : Nat → Int32), (∀ j, j < lc → a j = nI 0) → post r (nI ml, nI kw, nI hw, nI aw, nI tc, nI lc, nI rc, 1, xe, nI ck, (fun j => nI (T j)), (fun j => nI (L j)), a)) : wpX_seal post (nI ml, nI kw, nI hw, nI aw, nI tc, nI lc, nI rc, xd, xe, nI ck, (fun j => nI (T j)), (fun j => nI (L j)), aS) := by
  have h8 := Nat.lt_of_lt_of_le (ps_mk_lt (fun i => decide (¬ L i / 64 = 1)) lc) (ps_p8 hlc)
  refine br_t hd (br_t (by rw [hr]; rfl) (px_fill (s := 0) hlc (by decide) (fun a ha => px_keyless hlc hL (px_true hok hlk htc h8 ?_))))
  have ha' : ∀ j, j < lc → a j = nI 0 := fun j hj => by rw [ha j hj, ps_fs0]
  exact br_c (fun _ => hp _ a ha') (fun _ => hp _ a ha')
theorem ps_i_inj {a b : Bool} : ps_i a = ps_i b ↔ a = b := by cases a <;> cases b <;> decide
theorem px_hold {post : Int32 → St2 → Prop} {c : Nat} {b : Bool} (c1 : 64 ≤ c) (c2 : c < 192) (c3 : c % 64 < 8)
    (hp : ∀ (r e' : Int32), ps_hd e' c = b → (∀ c', 64 ≤ c' → c' < 192 → c' % 64 < 8 → ¬ c' = c → ps_hd e' c' = ps_hd xe c') → post r (nI ml, nI kw, nI hw, nI aw, nI tc, nI lc, nI rc, xd, e', nI ck, (fun j => nI (T j)), (fun j => nI (L j)), aS)) : wpX_hold post (nI ml, nI kw, nI hw, nI aw, nI tc, nI lc, nI rc, xd, xe, nI ck, (fun j => nI (T j)), (fun j => nI (L j)), aS) (nI (c / 64)) (nI (c % 64)) (ps_i b) := by
  refine px_secok c1 c2 c3 (br_f (by decide) (px_held c1 c2 c3 (ek_if ps_i_inj (fun q => ?_) (fun q => ?_))))
  · exact hp 0 xe q (fun _ _ _ _ _ => rfl)
  · refine nm_r (e' := xe ^^^ ((1 : Int32) <<< (nI ((c / 64 - 1) * 8 + c % 64) &&& 31))) (by rw [px_kn c1]) (hp 1 _ ?_ ?_)
    · rw [ps_hd_flip c1 c2 c3 c1 c2 c3, decide_eq_true rfl]
      revert q
      cases ps_hd xe c <;> cases b <;> first | (intro _; rfl) | (intro q; exact absurd rfl q)
    · intro c' p1 p2 p3 ne
      rw [ps_hd_flip c1 c2 c3 p1 p2 p3, decide_eq_false ne, Bool.xor_false]
theorem px_holds {post : Int32 → Prop} {c : Nat} (c1 : 64 ≤ c) (c2 : c < 192) (c3 : c % 64 < 8) (hp : post (ps_i (ps_hd xe c))) : wpX_holds post (nI ml, nI kw, nI hw, nI aw, nI tc, nI lc, nI rc, xd, xe, nI ck, (fun j => nI (T j)), (fun j => nI (L j)), aS) (nI (c / 64)) (nI (c % 64)) := by
  refine px_secok c1 c2 c3 (br_f (by decide) (px_held c1 c2 c3 ?_))
  by_cases q : ps_hd xe c = true
  · rw [q] at hp ⊢
    exact br_f (by decide) hp
  · rw [ps_nf q] at hp ⊢
    exact br_t (by decide) hp
theorem px_time {post : Int32 → St2 → Prop} {t : Nat} (ht : t < 64) (hp : post (nI ck) (nI ml, nI kw, nI hw, nI aw, nI tc, nI lc, nI rc, xd, xe, nI t, (fun j => nI (T j)), (fun j => nI (L j)), aS)) : wpX_setTime post (nI ml, nI kw, nI hw, nI aw, nI tc, nI lc, nI rc, xd, xe, nI ck, (fun j => nI (T j)), (fun j => nI (L j)), aS) (nI t) :=
  br_f (nI_pos (by omega)) (br_t (nI_le (b := 63) (by omega) (by decide)) hp)
theorem px_satisfy {post : Int32 → St2 → Prop} {m : Nat} (hd : ¬ xd = 0) (hok : ps_ok T tc) (hlk : ps_lk T tc ≤ 8) (htc : tc ≤ 15) (hlc : lc ≤ 8) (hck : ck < 64) (hL : ∀ j, j < lc → ps_fc (L j)) (h1 : kw ≤ 99) (h2 : hw ≤ 99) (h3 : aw ≤ 99)
    (em : ps_bs (fun s => ps_sb s (ps_mk (ps_ow L xe ck) lc) && ps_tr T tc s) (fun s => ps_wt (ps_w kw hw aw) L s lc) (2 ^ lc) = m) (hm : m < 2 ^ 31)
    (h0 : m = 0 → post (-1) (nI ml, nI kw, nI hw, nI aw, nI tc, nI lc, nI rc, xd, xe, nI ck, (fun j => nI (T j)), (fun j => nI (L j)), aS)) (hp : ¬ m = 0 → ∀ a : Nat → Int32, (∀ j, j < lc → a j = nI (ps_fs L m j)) → post (nI (ps_wt (ps_w kw hw aw) L m lc)) (nI ml, nI kw, nI hw, nI aw, nI tc, nI lc, nI rc, xd, xe, nI ck, (fun j => nI (T j)), (fun j => nI (L j)), a)) : wpX_satisfy post (nI ml, nI kw, nI hw, nI aw, nI tc, nI lc, nI rc, xd, xe, nI ck, (fun j => nI (T j)), (fun j => nI (L j)), aS) := by
  refine br_f hd (px_owners hlc hck hL (px_best hok hlk htc hlc hL h1 h2 h3 ?_))
  rw [em]
  refine px_take hlc hm hL (fun z => ?_) (fun z a ha => ?_)
  · exact h0 z
  · exact hp z a ha
theorem px_malleate {post : Int32 → St2 → Prop} {m : Nat} (hd : ¬ xd = 0) (hok : ps_ok T tc) (hlk : ps_lk T tc ≤ 8) (htc : tc ≤ 15) (hlc : lc ≤ 8) (hck : ck < 64) (hS : ∀ j, j < lc → aS j = nI (S j)) (hb : ∀ j, j < lc → S j < 256) (hL : ∀ j, j < lc → ps_fc (L j)) (h1 : kw ≤ 99) (h2 : hw ≤ 99) (h3 : aw ≤ 99)
    (em : ps_bs (ps_gm T tc lc (ps_mk (ps_on L S ck lc) lc) (ps_mk (ps_fl S) lc)) (fun s => ps_wt (ps_w kw hw aw) L s lc) (2 ^ lc) = m) (hm : m < 2 ^ 31)
    (h0 : m = 0 → post (-1) (nI ml, nI kw, nI hw, nI aw, nI tc, nI lc, nI rc, xd, xe, nI ck, (fun j => nI (T j)), (fun j => nI (L j)), aS)) (hp : ¬ m = 0 → ∀ a : Nat → Int32, (∀ j, j < lc → a j = nI (ps_fs L m j)) → post (nI (ps_wt (ps_w kw hw aw) L m lc)) (nI ml, nI kw, nI hw, nI aw, nI tc, nI lc, nI rc, xd, xe, nI ck, (fun j => nI (T j)), (fun j => nI (L j)), a)) : wpX_malleate post (nI ml, nI kw, nI hw, nI aw, nI tc, nI lc, nI rc, xd, xe, nI ck, (fun j => nI (T j)), (fun j => nI (L j)), aS) := by
  refine br_f hd (px_onlook hlc hck hS hb hL (px_filled hlc hS hb (px_bestm hok hlk htc hlc hL h1 h2 h3 (Nat.lt_of_lt_of_le (ps_mk_lt _ _) (ps_p8 hlc)) ?_)))
  rw [em]
  refine px_take hlc hm hL (fun z => ?_) (fun z a ha => ?_)
  · exact h0 z
  · exact hp z a ha
theorem px_place0 {post : Int32 → St2 → Prop} {i : Nat} (hd : ¬ xd = 0) (hi : i < lc) (hlc : lc ≤ 8) (hp : post 0 (nI ml, nI kw, nI hw, nI aw, nI tc, nI lc, nI rc, xd, xe, nI ck, (fun j => nI (T j)), (fun j => nI (L j)), upd aS i (nI 0))) : wpX_place post (nI ml, nI kw, nI hw, nI aw, nI tc, nI lc, nI rc, xd, xe, nI ck, (fun j => nI (T j)), (fun j => nI (L j)), aS) (nI i) 0 0 := by
  refine br_f hd (br_f (nI_pos (by omega)) (br_t (nI_lt hi (by omega)) (br_t rfl ⟨vp_in_nI (by omega) (by omega), nm_r (e' := upd aS i (nI 0)) (by rw [nI_clamp (by omega)]; rfl) ?_⟩)))
  exact hp
theorem px_place {post : Int32 → St2 → Prop} {i c : Nat} (hd : ¬ xd = 0) (hi : i < lc) (hlc : lc ≤ 8) (hck : ck < 64) (hc : ps_fc c) (hl : ps_fc (L i))
    (h0 : post (-1) (nI ml, nI kw, nI hw, nI aw, nI tc, nI lc, nI rc, xd, xe, nI ck, (fun j => nI (T j)), (fun j => nI (L j)), aS)) (hp : (c < 192 → ps_hd xe c = true) → ∀ r : Int32, post r (nI ml, nI kw, nI hw, nI aw, nI tc, nI lc, nI rc, xd, xe, nI ck, (fun j => nI (T j)), (fun j => nI (L j)), upd aS i (nI c))) : wpX_place post (nI ml, nI kw, nI hw, nI aw, nI tc, nI lc, nI rc, xd, xe, nI ck, (fun j => nI (T j)), (fun j => nI (L j)), aS) (nI i) (nI (c / 64)) (nI (c % 64)) := by
  obtain ⟨f1, f2, f3⟩ := id hc
  have X65 : (c < 192 → ps_hd xe c = true) → wX_place_65 post (nI i) (nI (c / 64)) (nI (c % 64)) (nI ml) (nI kw) (nI hw) (nI aw) (nI tc) (nI lc) (nI rc) xd xe (nI ck) (fun j => nI (T j)) (fun j => nI (L j)) aS := by
    intro q
    refine px_code ⟨vp_in_nI (by omega) (by omega), nm_r (e' := upd aS i (nI c)) (by rw [nI_clamp (by omega)]) (px_fits (S := fun _ => c) hi hlc hck pk_us f2 hl ?_)⟩
    exact br_c (fun _ => hp q 0) (fun _ => hp q 1)
  refine br_f hd (br_f (nI_pos (by omega)) (br_t (nI_lt hi (by omega)) (br_f (nI_ne0 (by omega) (by omega)) (px_fitok hc (br_f (by decide) (pk_eq (c / 64) 3 (fun q => ?_) (fun q => ?_)))))))
  · exact X65 (fun z => by omega)
  · refine px_held f1 (by omega) (f3 (by omega)) (ek_if (ps_i0 _) (fun z => h0) (fun z => X65 (fun _ => ps_nt z)))
theorem px_slot {post : Int32 → Prop} {i : Nat} (hd : ¬ xd = 0) (hi : i < lc) (hlc : lc ≤ 8) (hS : aS i = nI (S i)) (hp : post (nI (S i))) : wpX_slot post (nI ml, nI kw, nI hw, nI aw, nI tc, nI lc, nI rc, xd, xe, nI ck, (fun j => nI (T j)), (fun j => nI (L j)), aS) (nI i) := by
  refine br_f hd (br_f (nI_pos (by omega)) (br_t (nI_lt hi (by omega)) ⟨vp_in_nI (by omega) (by omega), ?_⟩))
  rw [nI_clamp (by omega), hS]
  exact hp
theorem px_status {post : Int32 → Prop} (hd : ¬ xd = 0) (hp : post (nI (ck + 64 * rc + 1024))) : wpX_status post (nI ml, nI kw, nI hw, nI aw, nI tc, nI lc, nI rc, xd, xe, nI ck, (fun j => nI (T j)), (fun j => nI (L j)), aS) := by
  have e : 64 * nI rc = nI (64 * rc) := pk_mul 64 rc
  refine nm_r (e' := nI (ck + 64 * rc)) (by rw [e, nI_add]) (br_f hd ?_)
  exact ek_v (P := post) (nI_add _ 1024) hp
theorem px_earliest {post : Int32 → Prop} (hd : ¬ xd = 0) (hok : ps_ok T tc) (hlk : ps_lk T tc ≤ 8) (htc : tc ≤ 15) (hlc : lc ≤ 8) (hL : ∀ j, j < lc → ps_fc (L j)) (hp : post (ps_er (fun t => ps_tr T tc (ps_mk (ps_ow L xe t) lc)) 64 0)) : wpX_earliest post (nI ml, nI kw, nI hw, nI aw, nI tc, nI lc, nI rc, xd, xe, nI ck, (fun j => nI (T j)), (fun j => nI (L j)), aS) :=
  br_f hd ⟨65, px_eloop hok hlk htc hlc hL 64 0 rfl hp⟩
end
