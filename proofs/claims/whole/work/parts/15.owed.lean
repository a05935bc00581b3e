theorem i_vc_lock {k : Nat} {u : SX} {v : SY} (I : i_Rel k u v) (hk : k + 4 ≤ 2052) (v1 : Int32) (v2 : Int32) : wpX_lock (fun r u' => wpY_lock (fun r' v' => r' = r ∧ i_Rel (k + 4) u' v') v v1 v2) u v1 v2 := by
  have J : i_Rel (k + 4) u v := I
  obtain ⟨T, L, S, ml, kw, hw, aw, tc, lc, rc, ck, xd, xe, aS, bS, bW, bH, bK, rfl, rfl, hv⟩ := I
  obtain ⟨⟨ok, lk, dp, a1, a2, a3, a4⟩, -⟩ := id hv
  by_cases hd : xd = 0
  · refine br_t hd ?_
    rcases px_fit v1 v2 with ⟨c, fc, rfl, rfl, fX, fY⟩ | ⟨fX, fY⟩
    · refine fX _ (br_f (by decide) (pk_lt lc ml (fun q => ?_) (fun q => ?_)))
      · refine px_code ⟨vp_in_nI (by omega) (by omega), nm_r (px_upd (by omega)) (nm_r (nI_1 lc) (nm_r (nI_1 rc) (px_append (by omega) ?_)))⟩
        refine br_t hd (fY _ _ _ _ _ _ _ _ _ _ _ _ _ (br_f (by decide) (br_t (nI_lt q (by omega)) (nm_r (nI_1 tc) ⟨vp_in_nI (by omega) (by omega), nm_r (e' := fun j => nI (ps_up T tc c j)) ?_ (nm_r (nI_1 lc) ⟨vp_in_nI (by omega) (by omega), nm_r (e' := fun j => nI (ps_up L lc c j)) ?_ (nm_r (nI_1 rc) ⟨nI_pred lc, ?_⟩)⟩)⟩))))
        · rw [px_cd]
          exact px_upd (by omega)
        · rw [px_cd]
          exact px_upd (by omega)
        · exact ⟨ps_up T tc c, ps_up L lc c, S, ml, kw, hw, aw, tc + 1, lc + 1, rc + 1, ck, xd, xe, aS, bS, bW, bH, bK, rfl, rfl, ps_iv_lock hv hd fc q⟩
      · exact br_t hd (fY _ _ _ _ _ _ _ _ _ _ _ _ _ (br_f (by decide) (br_f (nI_nlt q (by omega)) ⟨rfl, J⟩)))
    · exact fX _ (br_t rfl (br_t hd (fY _ _ _ _ _ _ _ _ _ _ _ _ _ (br_t rfl ⟨rfl, J⟩))))
  · exact br_f hd (br_f hd ⟨rfl, J⟩)
theorem i_vc_join {k : Nat} {u : SX} {v : SY} (I : i_Rel k u v) (hk : k + 4 ≤ 2052) (v1 : Int32) (v2 : Int32) : wpX_join (fun r u' => wpY_join (fun r' v' => r' = r ∧ i_Rel (k + 4) u' v') v v1 v2) u v1 v2 := by
  have J : i_Rel (k + 4) u v := I
  obtain ⟨T, L, S, ml, kw, hw, aw, tc, lc, rc, ck, xd, xe, aS, bS, bW, bH, bK, rfl, rfl, hv⟩ := I
  obtain ⟨⟨ok, lk, dp, a1, a2, a3, a4⟩, -⟩ := id hv
  by_cases hd : xd = 0
  · refine br_t hd ?_
    by_cases n1 : v2 < 2
    · exact br_t n1 (br_t hd (br_t n1 ⟨rfl, J⟩))
    by_cases n2 : 8 < v2
    · exact br_f n1 (br_t n2 (br_t hd (br_f n1 (br_t n2 ⟨rfl, J⟩))))
    by_cases n3 : v1 < 1
    · exact br_f n1 (br_f n2 (br_t n3 (br_t hd (br_f n1 (br_f n2 (br_t n3 ⟨rfl, J⟩))))))
    by_cases n4 : v1 ≤ v2
    · have z2 : ¬ v2 < 0 := fun q => n1 (Int32.lt_trans q (by decide))
      have z1 : ¬ v1 < 0 := fun q => n3 (Int32.lt_trans q (by decide))
      obtain ⟨n, hn, rfl⟩ := nI_of z2
      obtain ⟨m, hm, rfl⟩ := nI_of z1
      have n1' : ¬ n < 2 := fun q => n1 (nI_lt (b := 2) q (by decide))
      have n2' : ¬ 8 < n := fun q => n2 (nI_lt (a := 8) q hn)
      have n3' : ¬ m < 1 := fun q => n3 (nI_lt (b := 1) q (by decide))
      have n4' : m ≤ n := (nI_leI hm hn).mp n4
      have ec : (256 + (nI m - 1) * 8) + (nI n - 1) = nI (256 + (m - 1) * 8 + (n - 1)) := by
        have e1 : nI m - 1 = nI (m - 1) := pk_sub (b := 1) (by omega)
        have e2 : nI n - 1 = nI (n - 1) := pk_sub (b := 1) (by omega)
        have e3 : nI (m - 1) * 8 = nI ((m - 1) * 8) := pk_mul _ 8
        have e4 : 256 + nI ((m - 1) * 8) = nI (256 + (m - 1) * 8) := nI_add 256 _
        rw [e1, e2, e3, e4, nI_add]
      have er : n ≤ rc → (nI rc - nI n) + 1 = nI (rc - n + 1) := fun q => by rw [pk_sub q, nI_1]
      refine br_f n1 (br_f n2 (br_f n3 (br_t n4 (pk_le n rc (fun q => ?_) (fun q => ?_)))))
      · rw [ec]
        refine px_append (by omega) (nm_r (er q) ?_)
        refine br_t hd (br_f n1 (br_f n2 (br_f n3 (br_t n4 (br_t (nI_le q (by omega)) (nm_r (nI_1 tc) ⟨vp_in_nI (by omega) (by omega), nm_r (e' := fun j => nI (ps_up T tc (256 + (m - 1) * 8 + (n - 1)) j)) ?_ (nm_r (er q) ⟨rfl, ?_⟩)⟩))))))
        · rw [ec]
          exact px_upd (by omega)
        · exact ⟨_, L, S, ml, kw, hw, aw, tc + 1, lc, rc - n + 1, ck, xd, xe, aS, bS, bW, bH, bK, rfl, rfl, ps_iv_join hv hd (by omega) n4' (by omega) (by omega) q⟩
      · exact br_t hd (br_f n1 (br_f n2 (br_f n3 (br_t n4 (br_f (nI_ge q hn) ⟨rfl, J⟩)))))
    · exact br_f n1 (br_f n2 (br_f n3 (br_f n4 (br_t hd (br_f n1 (br_f n2 (br_f n3 (br_f n4 ⟨rfl, J⟩))))))))
  · exact br_f hd (br_f hd ⟨rfl, J⟩)
theorem i_vc_seal {k : Nat} {u : SX} {v : SY} (I : i_Rel k u v) (hk : k + 4 ≤ 2052) : wpX_seal (fun r u' => wpY_seal (fun r' v' => r' = r ∧ i_Rel (k + 4) u' v') v) u := by
  have J : i_Rel (k + 4) u v := I
  obtain ⟨T, L, S, ml, kw, hw, aw, tc, lc, rc, ck, xd, xe, aS, bS, bW, bH, bK, rfl, rfl, hv⟩ := I
  obtain ⟨⟨ok, lk, dp, a1, a2, a3, a4⟩, hL, -⟩ := id hv
  have h8 := Nat.lt_of_lt_of_le (ps_mk_lt (fun i => decide (¬ L i / 64 = 1)) lc) (ps_p8 (show lc ≤ 8 by omega))
  by_cases hd : xd = 0
  · refine br_t hd (pk_eq rc 1 (fun q => ?_) (fun q => ?_))
    · refine px_fill (s := 0) (by omega) (by decide) (fun a ha => px_keyless (by omega) hL (px_true ok (by omega) a4 h8 ?_))
      have R : ∀ K : Nat → Int32, i_Rel (k + 4) (nI ml, nI kw, nI hw, nI aw, nI tc, nI lc, nI rc, 1, xe, nI ck, (fun j => nI (T j)), (fun j => nI (L j)), a) (nI tc, nI lc, nI rc, nI ck, nI ml, 1, (fun j => nI (T j)), (fun j => nI (L j)), bS, bW, bH, K) := fun K => ⟨T, L, S, ml, kw, hw, aw, tc, lc, rc, ck, 1, xe, a, bS, bW, bH, K, rfl, rfl, ps_iv_seal hv hd q ha⟩
      have g : ∀ r : Int32, r = ps_i (!ps_tr T tc (ps_mk (fun i => decide (¬ L i / 64 = 1)) lc)) → wpY_seal (fun r' v' => r' = r ∧ i_Rel (k + 4) (nI ml, nI kw, nI hw, nI aw, nI tc, nI lc, nI rc, 1, xe, nI ck, (fun j => nI (T j)), (fun j => nI (L j)), a) v') (nI tc, nI lc, nI rc, nI ck, nI ml, xd, (fun j => nI (T j)), (fun j => nI (L j)), bS, bW, bH, bK) := by
        intro r hr
        refine br_t hd (br_t (by rw [q]; rfl) ⟨lc + 1, py_kloop ok (by omega) (by omega) a4 (by omega) hL (fun K => ⟨hr.symm, R K⟩) lc 0 (Nat.zero_add _)⟩)
      by_cases c : ps_tr T tc (ps_mk (fun i => decide (¬ L i / 64 = 1)) lc) = true
      · rw [c] at g ⊢
        exact br_f (by decide) (g 0 rfl)
      · rw [ps_nf c] at g ⊢
        exact br_t (by decide) (g 1 rfl)
    · exact br_t hd (br_f (fun z => q ((nI_eq (b := 1) (by omega) (by decide)).mp z)) ⟨rfl, J⟩)
  · exact br_f hd (br_f hd ⟨rfl, J⟩)
theorem i_vc_reopen {k : Nat} {u : SX} {v : SY} (I : i_Rel k u v) (hk : k + 4 ≤ 2052) : wpX_reopen (fun u' => wpY_reopen (fun v' => i_Rel (k + 4) u' v') v) u := by
  obtain ⟨T, L, S, ml, kw, hw, aw, tc, lc, rc, ck, xd, xe, aS, bS, bW, bH, bK, rfl, rfl, hv⟩ := I
  exact ⟨9, py_oloop (tc := 0) (lc := 0) (rc := 0) (fun b hb => ⟨T, L, fun _ => 0, ml, kw, hw, aw, 0, 0, 0, ck, 0, xe, aS, b, bW, bH, bK, rfl, rfl, ps_iv_reopen hv hb⟩) 8 0 bS rfl (fun j h => absurd h (Nat.not_lt_zero j))⟩
