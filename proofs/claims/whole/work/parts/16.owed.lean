theorem px_bz (v : Int32) : ∃ b : Bool, lw_bz v = ps_i b := by
  rcases lw_bz_01 v with h | h
  · exact ⟨false, h⟩
  · exact ⟨true, h⟩
theorem ps_i_inj {a b : Bool} : ps_i a = ps_i b ↔ a = b := by cases a <;> cases b <;> decide
theorem i_vc_hold {k : Nat} {u : SX} {v : SY} (I : i_Rel k u v) (hk : k + 4 ≤ 2052) (v1 : Int32) (v2 : Int32) (v3 : Int32) : wpX_hold (fun r u' => wpY_hold (fun r' v' => r' = r ∧ i_Rel (k + 4) u' v') v v1 v2 (lw_bz v3)) u v1 v2 (lw_bz v3) := by
  have J : i_Rel (k + 4) u v := I
  obtain ⟨T, L, S, ml, kw, hw, aw, tc, lc, rc, ck, xd, xe, aS, bS, bW, bH, bK, rfl, rfl, hv⟩ := I
  obtain ⟨⟨ok, lk, dp, a1, a2, a3, a4⟩, hL, hn, hx, hW, hH, -⟩ := id hv
  obtain ⟨b, eb⟩ := px_bz v3
  rw [eb]
  rcases px_secret v1 v2 with ⟨c, c1, c2, c3, rfl, rfl, fX, fY⟩ | ⟨fX, fY⟩
  · have hc := hH c c1 c2 c3
    refine fX _ (br_f (by decide) (px_held c1 c2 c3 ?_))
    have g : ∀ (r : Int32) (e' : Int32), r = ps_i (ps_hd xe c ^^ b) → ps_hd e' c = b → (∀ c', 64 ≤ c' → c' < 192 → c' % 64 < 8 → ¬ c' = c → ps_hd e' c' = ps_hd xe c') →
        wpY_hold (fun r' v' => r' = r ∧ i_Rel (k + 4) (nI ml, nI kw, nI hw, nI aw, nI tc, nI lc, nI rc, xd, e', nI ck, (fun j => nI (T j)), (fun j => nI (L j)), aS) v') (nI tc, nI lc, nI rc, nI ck, nI ml, xd, (fun j => nI (T j)), (fun j => nI (L j)), bS, bW, bH, bK) (nI (c / 64)) (nI (c % 64)) (ps_i b) := by
      intro r e' hr h1 h2
      have R : i_Rel (k + 4) (nI ml, nI kw, nI hw, nI aw, nI tc, nI lc, nI rc, xd, e', nI ck, (fun j => nI (T j)), (fun j => nI (L j)), aS) (nI tc, nI lc, nI rc, nI ck, nI ml, xd, (fun j => nI (T j)), (fun j => nI (L j)), bS, bW, upd bH c (ps_i b), bK) := ⟨T, L, S, ml, kw, hw, aw, tc, lc, rc, ck, xd, e', aS, bS, bW, upd bH c (ps_i b), bK, rfl, rfl, ps_iv_hold hv c1 c2 c3 h1 h2⟩
      refine fY _ _ _ _ _ _ _ _ _ _ _ _ _ (br_f (by decide) ?_)
      rw [px_cd, nI_clamp (by omega), ps_vb, hc]
      refine ⟨vp_in_nI (by omega) (by omega), nm_e ⟨vp_in_nI (by omega) (by omega), nm_e ?_⟩⟩
      refine ek_if ps_i_inj (fun q => ⟨?_, R⟩) (fun q => ⟨?_, R⟩)
      · rw [hr, q, Bool.xor_self]
        rfl
      · rw [hr]
        revert q
        cases ps_hd xe c <;> cases b <;> first | (intro _; rfl) | (intro q; exact absurd rfl q)
    refine ek_if ps_i_inj (fun q => ?_) (fun q => ?_)
    · exact g 0 xe (by rw [q, Bool.xor_self]; rfl) q (fun _ _ _ _ _ => rfl)
    · refine nm_r (e' := xe ^^^ ((1 : Int32) <<< (nI ((c / 64 - 1) * 8 + c % 64) &&& 31))) (by rw [px_kn c1]) (g 1 _ ?_ ?_ ?_)
      · revert q
        cases ps_hd xe c <;> cases b <;> first | (intro _; rfl) | (intro q; exact absurd rfl q)
      · rw [ps_hd_flip c1 c2 c3 c1 c2 c3, decide_eq_true rfl]
        revert q
        cases ps_hd xe c <;> cases b <;> first | (intro _; rfl) | (intro q; exact absurd rfl q)
      · intro c' p1 p2 p3 ne
        rw [ps_hd_flip c1 c2 c3 p1 p2 p3, decide_eq_false ne, Bool.xor_false]
  · exact fX _ (br_t rfl (fY _ _ _ _ _ _ _ _ _ _ _ _ _ (br_t rfl ⟨rfl, J⟩)))
theorem i_vc_holds {k : Nat} {u : SX} {v : SY} (I : i_Rel k u v) (hk : k + 4 ≤ 2052) (v1 : Int32) (v2 : Int32) : wpX_holds (fun r => wpY_holds (fun r' => r' = r ∧ i_Rel (k + 4) u v) v v1 v2) u v1 v2 := by
  have J : i_Rel (k + 4) u v := I
  obtain ⟨T, L, S, ml, kw, hw, aw, tc, lc, rc, ck, xd, xe, aS, bS, bW, bH, bK, rfl, rfl, hv⟩ := I
  obtain ⟨⟨ok, lk, dp, a1, a2, a3, a4⟩, hL, hn, hx, hW, hH, -⟩ := id hv
  rcases px_secret v1 v2 with ⟨c, c1, c2, c3, rfl, rfl, fX, fY⟩ | ⟨fX, fY⟩
  · have hc := hH c c1 c2 c3
    refine fX _ (br_f (by decide) (px_held c1 c2 c3 ?_))
    refine ek_if (ps_i0 _) (fun q => ?_) (fun q => ?_)
    · refine fY _ _ _ _ _ _ _ _ _ _ _ _ _ (br_f (by decide) ?_)
      rw [px_cd, nI_clamp (by omega), hc]
      exact ⟨vp_in_nI (by omega) (by omega), br_t ((ps_i0 _).mpr q) ⟨rfl, J⟩⟩
    · refine fY _ _ _ _ _ _ _ _ _ _ _ _ _ (br_f (by decide) ?_)
      rw [px_cd, nI_clamp (by omega), hc]
      exact ⟨vp_in_nI (by omega) (by omega), br_f (fun z => q ((ps_i0 _).mp z)) ⟨rfl, J⟩⟩
  · exact fX _ (br_t rfl (fY _ _ _ _ _ _ _ _ _ _ _ _ _ (br_t rfl ⟨rfl, J⟩)))
theorem i_vc_setTime {k : Nat} {u : SX} {v : SY} (I : i_Rel k u v) (hk : k + 4 ≤ 2052) (v1 : Int32) : wpX_setTime (fun r u' => wpY_setTime (fun r' v' => r' = r ∧ i_Rel (k + 4) u' v') v v1) u v1 := by
  have J : i_Rel (k + 4) u v := I
  obtain ⟨T, L, S, ml, kw, hw, aw, tc, lc, rc, ck, xd, xe, aS, bS, bW, bH, bK, rfl, rfl, hv⟩ := I
  by_cases h1 : v1 < 0
  · exact br_t h1 (br_t h1 ⟨rfl, J⟩)
  by_cases h2 : v1 ≤ 63
  · obtain ⟨j, hj, rfl⟩ := nI_of h1
    have h3 := (nI_leI (b := 63) hj (by decide)).mp h2
    exact br_f h1 (br_t h2 (br_f h1 (br_t h2 ⟨rfl, T, L, S, ml, kw, hw, aw, tc, lc, rc, j, xd, xe, aS, bS, bW, bH, bK, rfl, rfl, ps_iv_time hv (by omega)⟩)))
  · exact br_f h1 (br_f h2 (br_f h1 (br_f h2 ⟨rfl, J⟩)))
theorem i_vc_satisfy {k : Nat} {u : SX} {v : SY} (I : i_Rel k u v) (hk : k + 4 ≤ 2052) : wpX_satisfy (fun r u' => wpY_satisfy (fun r' v' => r' = r ∧ i_Rel (k + 4) u' v') v) u := by
  have J : i_Rel (k + 4) u v := I
  obtain ⟨T, L, S, ml, kw, hw, aw, tc, lc, rc, ck, xd, xe, aS, bS, bW, bH, bK, rfl, rfl, hv⟩ := I
  obtain ⟨⟨ok, lk, dp, a1, a2, a3, a4⟩, hL, ⟨w1, w2, w3, ht⟩, hx, hW, hH, -⟩ := id hv
  have hl8 : lc ≤ 8 := by omega
  have h8 := ps_p8 hl8
  by_cases hd : xd = 0
  · exact br_t hd (py_owners hl8 ht hL hH (br_t hd ⟨rfl, J⟩))
  · have hr : rc = 1 := by
      rcases hx with q | q
      · exact absurd q hd
      · exact q.2
    have hm := ps_bs_in (fun s => ps_sb s (ps_mk (ps_ow L xe ck) lc) && ps_tr T tc s) (fun s => ps_wt (ps_w kw hw aw) L s lc) (2 ^ lc)
    have p0 := ps_p0 lc
    have hm2 : ps_bs (fun s => ps_sb s (ps_mk (ps_ow L xe ck) lc) && ps_tr T tc s) (fun s => ps_wt (ps_w kw hw aw) L s lc) (2 ^ lc) < 2 ^ lc := by
      rcases hm with q | q
      · omega
      · exact q.1
    have Y : ∀ (r : Int32) (u' : SX), (ps_bs (fun s => ps_sb s (ps_mk (ps_ow L xe ck) lc) && ps_tr T tc s) (fun s => ps_wt (ps_w kw hw aw) L s lc) (2 ^ lc) = 0 → (-1 : Int32) = r ∧ ∀ K : Nat → Int32, i_Rel (k + 4) u' (nI tc, nI lc, nI rc, nI ck, nI ml, xd, (fun j => nI (T j)), (fun j => nI (L j)), bS, bW, bH, K)) →
        (¬ ps_bs (fun s => ps_sb s (ps_mk (ps_ow L xe ck) lc) && ps_tr T tc s) (fun s => ps_wt (ps_w kw hw aw) L s lc) (2 ^ lc) = 0 → nI (ps_wt (ps_w kw hw aw) L (ps_bs (fun s => ps_sb s (ps_mk (ps_ow L xe ck) lc) && ps_tr T tc s) (fun s => ps_wt (ps_w kw hw aw) L s lc) (2 ^ lc)) lc) = r ∧ ∀ b K : Nat → Int32, (∀ j, j < 8 → b j = nI (ps_fs L (ps_bs (fun s => ps_sb s (ps_mk (ps_ow L xe ck) lc) && ps_tr T tc s) (fun s => ps_wt (ps_w kw hw aw) L s lc) (2 ^ lc)) j)) → i_Rel (k + 4) u' (nI tc, nI lc, nI rc, nI ck, nI ml, xd, (fun j => nI (T j)), (fun j => nI (L j)), b, bW, bH, K)) →
        wpY_satisfy (fun r' v' => r' = r ∧ i_Rel (k + 4) u' v') (nI tc, nI lc, nI rc, nI ck, nI ml, xd, (fun j => nI (T j)), (fun j => nI (L j)), bS, bW, bH, bK) := by
      intro r u' q0 q1
      exact py_owners hl8 ht hL hH (br_f hd (py_rew ok (by omega) (by omega) a4 hl8 hL hW (ps_w_le w1 w2 w3) (ps_mk_lt _ _) (fun z K => ⟨(q0 z).1, (q0 z).2 K⟩) (fun z b K hb => ⟨(q1 z).1, (q1 z).2 b K hb⟩)))
    refine br_f hd (px_owners hl8 ht hL (px_best ok (by omega) a4 hl8 hL w1 w2 w3 (px_take hl8 (by omega) hL (fun z => ?_) (fun z a ha => ?_))))
    · exact Y _ _ (fun _ => ⟨rfl, fun K => ⟨T, L, S, ml, kw, hw, aw, tc, lc, rc, ck, xd, xe, aS, bS, bW, bH, K, rfl, rfl, hv⟩⟩) (fun q => absurd z q)
    · exact Y _ _ (fun q => absurd q z) (fun _ => ⟨rfl, fun b K hb => ⟨T, L, _, ml, kw, hw, aw, tc, lc, rc, ck, xd, xe, a, b, bW, bH, K, rfl, rfl, ps_iv_wit hv hd hm2 ha hb⟩⟩)
theorem i_vc_malleate {k : Nat} {u : SX} {v : SY} (I : i_Rel k u v) (hk : k + 4 ≤ 2052) : wpX_malleate (fun r u' => wpY_malleate (fun r' v' => r' = r ∧ i_Rel (k + 4) u' v') v) u := by
  have J : i_Rel (k + 4) u v := I
  obtain ⟨T, L, S, ml, kw, hw, aw, tc, lc, rc, ck, xd, xe, aS, bS, bW, bH, bK, rfl, rfl, hv⟩ := I
  obtain ⟨⟨ok, lk, dp, a1, a2, a3, a4⟩, hL, ⟨w1, w2, w3, ht⟩, hx, hW, hH, hB, hb, hz, h0, hS⟩ := id hv
  have hl8 : lc ≤ 8 := by omega
  have h8 := ps_p8 hl8
  by_cases hd : xd = 0
  · exact br_t hd (py_onlook hl8 ht hB hb hz hL (py_filled hl8 hB hb hz (br_t hd ⟨rfl, J⟩)))
  · have hr : rc = 1 := by
      rcases hx with q | q
      · exact absurd q hd
      · exact q.2
    have hb' : ∀ j, j < lc → S j < 256 := fun j hj => hb j (by omega)
    have hf : ps_mk (ps_fl S) lc < 256 := Nat.lt_of_lt_of_le (ps_mk_lt _ _) h8
    generalize eg : ps_gm T tc lc (ps_mk (ps_on L S ck lc) lc) (ps_mk (ps_fl S) lc) = g
    generalize em : ps_bs g (fun s => ps_wt (ps_w kw hw aw) L s lc) (2 ^ lc) = m
    have hm := ps_bs_in g (fun s => ps_wt (ps_w kw hw aw) L s lc) (2 ^ lc)
    have p0 := ps_p0 lc
    rw [em] at hm
    have hm2 : m < 2 ^ lc := by
      rcases hm with q | q
      · omega
      · exact q.1
    have Y : ∀ (r : Int32) (u' : SX), (m = 0 → (-1 : Int32) = r ∧ ∀ K : Nat → Int32, i_Rel (k + 4) u' (nI tc, nI lc, nI rc, nI ck, nI ml, xd, (fun j => nI (T j)), (fun j => nI (L j)), bS, bW, bH, K)) →
        (¬ m = 0 → nI (ps_wt (ps_w kw hw aw) L m lc) = r ∧ ∀ b K : Nat → Int32, (∀ j, j < 8 → b j = nI (ps_fs L m j)) → i_Rel (k + 4) u' (nI tc, nI lc, nI rc, nI ck, nI ml, xd, (fun j => nI (T j)), (fun j => nI (L j)), b, bW, bH, K)) →
        wpY_malleate (fun r' v' => r' = r ∧ i_Rel (k + 4) u' v') (nI tc, nI lc, nI rc, nI ck, nI ml, xd, (fun j => nI (T j)), (fun j => nI (L j)), bS, bW, bH, bK) := by
      intro r u' q0 q1
      refine py_onlook hl8 ht hB hb hz hL (py_filled hl8 hB hb hz (br_f hd (py_rewm ok (by omega) (by omega) a4 hl8 hL hW (ps_w_le w1 w2 w3) (ps_mk_lt _ _) hf ?_ ?_)))
      · rw [eg, em]
        exact fun z K => ⟨(q0 z).1, (q0 z).2 K⟩
      · rw [eg, em]
        exact fun z b K hb => ⟨(q1 z).1, (q1 z).2 b K hb⟩
    refine br_f hd (px_onlook hl8 ht (hS hd) hb' hL (px_filled hl8 (hS hd) hb' (px_bestm ok (by omega) a4 hl8 hL w1 w2 w3 hf ?_)))
    rw [eg, em]
    refine px_take hl8 (by omega) hL (fun z => ?_) (fun z a ha => ?_)
    · exact Y _ _ (fun _ => ⟨rfl, fun K => ⟨T, L, S, ml, kw, hw, aw, tc, lc, rc, ck, xd, xe, aS, bS, bW, bH, K, rfl, rfl, hv⟩⟩) (fun q => absurd z q)
    · exact Y _ _ (fun q => absurd q z) (fun _ => ⟨rfl, fun b K hb => ⟨T, L, _, ml, kw, hw, aw, tc, lc, rc, ck, xd, xe, a, b, bW, bH, K, rfl, rfl, ps_iv_wit hv hd hm2 ha hb⟩⟩)
theorem i_vc_variants {k : Nat} {u : SX} {v : SY} (I : i_Rel k u v) (hk : k + 4 ≤ 2052) : wpX_variants (fun r => wpY_variants (fun r' v' => r' = r ∧ i_Rel (k + 4) u v') v) u := by
  have J : i_Rel (k + 4) u v := I
  obtain ⟨T, L, S, ml, kw, hw, aw, tc, lc, rc, ck, xd, xe, aS, bS, bW, bH, bK, rfl, rfl, hv⟩ := I
  obtain ⟨⟨ok, lk, dp, a1, a2, a3, a4⟩, hL, ⟨w1, w2, w3, ht⟩, hx, hW, hH, hB, hb, hz, h0, hS⟩ := id hv
  have hl8 : lc ≤ 8 := by omega
  have h8 := ps_p8 hl8
  by_cases hd : xd = 0
  · exact br_t hd (py_onlook hl8 ht hB hb hz hL ⟨257, py_vdraft hd ⟨rfl, J⟩ 256 0 rfl⟩)
  · have hr : rc = 1 := by
      rcases hx with q | q
      · exact absurd q hd
      · exact q.2
    have hb' : ∀ j, j < lc → S j < 256 := fun j hj => hb j (by omega)
    have p0 := ps_p0 lc
    refine br_f hd (px_onlook hl8 ht (hS hd) hb' hL ⟨2 ^ lc - 1 + 1, ?_⟩)
    have e1 : ps_ct (fun s => ps_sb s (ps_mk (ps_on L S ck lc) lc) && ps_mn (ps_tr T tc) lc s) 1 = 0 := by
      rw [ps_ctF (by rw [ps_mn, ps_tr0, Bool.false_and, Bool.and_false])]
      rfl
    have z := px_vloop (ml := ml) (kw := kw) (hw := hw) (aw := aw) (rc := rc) (ck := ck) (xd := xd) (xe := xe) (L := L) (aS := aS) (f := ps_mk (ps_on L S ck lc) lc) (post := fun r => wpY_variants (fun r' v' => r' = r ∧ i_Rel (k + 4) (nI ml, nI kw, nI hw, nI aw, nI tc, nI lc, nI rc, xd, xe, nI ck, (fun j => nI (T j)), (fun j => nI (L j)), aS) v') (nI tc, nI lc, nI rc, nI ck, nI ml, xd, (fun j => nI (T j)), (fun j => nI (L j)), bS, bW, bH, bK)) ok (by omega) a4 hl8 ?_ (2 ^ lc - 1) 1 (by omega)
    · rw [e1] at z
      exact z
    · exact py_onlook hl8 ht hB hb hz hL ⟨257, py_vloop hd ok (by omega) (by omega) a4 hl8 (ps_mk_lt _ _) (fun K => ⟨rfl, T, L, S, ml, kw, hw, aw, tc, lc, rc, ck, xd, xe, aS, bS, bW, bH, K, rfl, rfl, hv⟩) 256 0 bK rfl⟩
