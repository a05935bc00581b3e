theorem i_vc_place {k : Nat} {u : SX} {v : SY} (I : i_Rel k u v) (hk : k + 4 ≤ 2052) (v1 : Int32) (v2 : Int32) (v3 : Int32) : wpX_place (fun r u' => wpY_place (fun r' v' => r' = r ∧ i_Rel (k + 4) u' v') v v1 v2 v3) u v1 v2 v3 := by
  have J : i_Rel (k + 4) u v := I
  obtain ⟨T, L, S, ml, kw, hw, aw, tc, lc, rc, ck, xd, xe, aS, bS, bW, bH, bK, rfl, rfl, hv⟩ := I
  obtain ⟨⟨ok, lk, dp, a1, a2, a3, a4⟩, hL, ⟨w1, w2, w3, ht⟩, hx, hW, hH, hB, hb, hz, h0, hS⟩ := id hv
  have hl8 : lc ≤ 8 := by omega
  by_cases hd : xd = 0
  · exact br_t hd (br_t hd ⟨rfl, J⟩)
  by_cases n1 : v1 < 0
  · exact br_f hd (br_t n1 (br_f hd (br_t n1 ⟨rfl, J⟩)))
  by_cases n2 : v1 < nI lc
  · obtain ⟨i, hi, rfl⟩ := nI_of n1
    have il := (nI_ltI hi (by omega)).mp n2
    have fci := hL i il
    have R : ∀ c, c < 256 → i_Rel (k + 4) (nI ml, nI kw, nI hw, nI aw, nI tc, nI lc, nI rc, xd, xe, nI ck, (fun j => nI (T j)), (fun j => nI (L j)), upd aS i (nI c)) (nI tc, nI lc, nI rc, nI ck, nI ml, xd, (fun j => nI (T j)), (fun j => nI (L j)), upd bS i (nI c), bW, bH, bK) := fun c hc => ⟨T, L, ps_up S i c, ml, kw, hw, aw, tc, lc, rc, ck, xd, xe, upd aS i (nI c), upd bS i (nI c), bW, bH, bK, rfl, rfl, ps_iv_put hv hd il hc⟩
    have Y85 : ∀ (c : Nat) (r : Int32) (u' : SX), c < 256 → r = ps_i (ps_ft L (ps_up S i c) ck i) → i_Rel (k + 4) u' (nI tc, nI lc, nI rc, nI ck, nI ml, xd, (fun j => nI (T j)), (fun j => nI (L j)), upd bS i (nI c), bW, bH, bK) → wY_place_85 (fun r' v' => r' = r ∧ i_Rel (k + 4) u' v') (nI i) (nI c) (nI i) (nI tc) (nI lc) (nI rc) (nI ck) (nI ml) xd (fun j => nI (T j)) (fun j => nI (L j)) bS bW bH bK := by
      intro c r u' hc hr hR
      refine ⟨vp_in_nI (by omega) (by omega), nm_r (e' := upd bS i (nI c)) (by rw [nI_clamp hi]) (py_fits (S := ps_up S i c) il hl8 ht (by rw [pk_us, ps_up_s]) (by rw [ps_up_s]; exact hc) fci ?_)⟩
      refine ek_if (ps_i0 _) (fun q => ⟨?_, hR⟩) (fun q => ⟨?_, hR⟩)
      · rw [hr, q]
        rfl
      · rw [hr, ps_nt q]
        rfl
    refine br_f hd (br_f n1 (br_t n2 ?_))
    by_cases z : v2 = 0
    · have e0 : ps_ft L (ps_up S i 0) ck i = false := by
        rw [ps_ft, ps_up_s, decide_eq_false (by have := fci.1; omega)]
        rfl
      refine br_t z ⟨vp_in_nI (by omega) (by omega), nm_r (e' := upd aS i (nI 0)) (by rw [nI_clamp hi]; rfl) ?_⟩
      refine br_f hd (br_f n1 (br_t n2 (br_t z ?_)))
      exact br_f (by rw [z]; decide) (br_f (by rw [z]; decide) (br_t rfl (br_t z (Y85 0 _ _ (by decide) (by rw [e0]; rfl) (R 0 (by decide))))))
    · refine br_f z ?_
      rcases px_fit v2 v3 with ⟨c, fc, rfl, rfl, fX, fY⟩ | ⟨fX, fY⟩
      · obtain ⟨f1, f2, f3⟩ := fc
        have X65 : ∀ (P : Int32 → SX → Prop), P (ps_i (ps_ft L (ps_up S i c) ck i)) (nI ml, nI kw, nI hw, nI aw, nI tc, nI lc, nI rc, xd, xe, nI ck, (fun j => nI (T j)), (fun j => nI (L j)), upd aS i (nI c)) → wX_place_65 P (nI i) (nI (c / 64)) (nI (c % 64)) (nI ml) (nI kw) (nI hw) (nI aw) (nI tc) (nI lc) (nI rc) xd xe (nI ck) (fun j => nI (T j)) (fun j => nI (L j)) aS := by
          intro P hP
          refine px_code ⟨vp_in_nI (by omega) (by omega), nm_r (e' := upd aS i (nI c)) (by rw [nI_clamp hi]) (px_fits (S := ps_up S i c) il hl8 ht (by rw [pk_us, ps_up_s]) (by rw [ps_up_s]; exact f2) fci ?_)⟩
          by_cases q : ps_ft L (ps_up S i c) ck i = true
          · rw [q] at hP ⊢
            exact br_f (by decide) hP
          · rw [ps_nf q] at hP ⊢
            exact br_t (by decide) hP
        have Y66 : wY_place_66 (fun r' v' => r' = ps_i (ps_ft L (ps_up S i c) ck i) ∧ i_Rel (k + 4) (nI ml, nI kw, nI hw, nI aw, nI tc, nI lc, nI rc, xd, xe, nI ck, (fun j => nI (T j)), (fun j => nI (L j)), upd aS i (nI c)) v') (nI i) (nI (c / 64)) (nI (c % 64)) (nI tc) (nI lc) (nI rc) (nI ck) (nI ml) xd (fun j => nI (T j)) (fun j => nI (L j)) bS bW bH bK := by
          refine br_f z ?_
          rw [px_cd]
          exact Y85 c _ _ f2 rfl (R c f2)
        refine fX _ (br_f (by decide) (pk_eq (c / 64) 3 (fun q => ?_) (fun q => ?_)))
        · refine X65 _ ?_
          refine br_f hd (br_f n1 (br_t n2 (br_f z (fY _ _ _ _ _ _ _ _ _ _ _ _ _ (br_f (by decide) ?_)))))
          refine br_f (by rw [q]; decide) (br_f (by rw [q]; decide) (br_t rfl Y66))
        · have g3 := f3 (by omega)
          have hc := hH c f1 (by omega) g3
          refine px_held f1 (by omega) g3 ?_
          have ys : ∀ (P : Int32 → SY → Prop), (ps_hd xe c = false → P (-1) (nI tc, nI lc, nI rc, nI ck, nI ml, xd, (fun j => nI (T j)), (fun j => nI (L j)), bS, bW, bH, bK)) → (ps_hd xe c = true → wY_place_66 P (nI i) (nI (c / 64)) (nI (c % 64)) (nI tc) (nI lc) (nI rc) (nI ck) (nI ml) xd (fun j => nI (T j)) (fun j => nI (L j)) bS bW bH bK) → wpY_place P (nI tc, nI lc, nI rc, nI ck, nI ml, xd, (fun j => nI (T j)), (fun j => nI (L j)), bS, bW, bH, bK) (nI i) (nI (c / 64)) (nI (c % 64)) := by
            intro P h0 h1
            refine br_f hd (br_f n1 (br_t n2 (br_f z (fY _ _ _ _ _ _ _ _ _ _ _ _ _ (br_f (by decide) ?_)))))
            rcases px_secret (nI (c / 64)) (nI (c % 64)) with ⟨c', -, -, -, -, -, -, sY⟩ | ⟨-, sY⟩
            · refine sY _ _ _ _ _ _ _ _ _ _ _ _ _ (br_f (by decide) ?_)
              rw [px_cd, nI_clamp (by omega), hc]
              exact ⟨vp_in_nI (by omega) (by omega), ek_if (ps_i0 _) h0 (fun q => h1 (ps_nt q))⟩
            · exfalso
              have w := sY (fun r => r = 0) 0 0 0 0 0 0 (fun _ => 0) (fun _ => 0) (fun _ => 0) (fun _ => 0) (fun _ => 0) (fun _ => 0) rfl
              have t1 : ¬ nI (c % 64) < 0 := nI_pos (by omega)
              have t2 : ¬ (7 : Int32) < nI (c % 64) := nI_nlt (a := 7) (b := c % 64) (by omega) (by decide)
              have k12 : c / 64 = 1 ∨ c / 64 = 2 := by omega
              rcases k12 with e | e
              · rw [e] at w
                exact absurd (((w.1 rfl).2 t1).2 t2) (by decide)
              · rw [e] at w
                exact absurd ((((w.2 (by decide)).1 rfl).2 t1).2 t2) (by decide)
          refine ek_if (ps_i0 _) (fun q => ?_) (fun q => ?_)
          · exact ys _ (fun _ => ⟨rfl, J⟩) (fun q2 => absurd (q.symm.trans q2) (by decide))
          · exact X65 _ (ys _ (fun q2 => absurd q2 q) (fun _ => Y66))
      · exact fX _ (br_t rfl (br_f hd (br_f n1 (br_t n2 (br_f z (fY _ _ _ _ _ _ _ _ _ _ _ _ _ (br_t rfl ⟨rfl, J⟩)))))))
  · exact br_f hd (br_f n1 (br_f n2 (br_f hd (br_f n1 (br_f n2 ⟨rfl, J⟩)))))
theorem i_vc_spend {k : Nat} {u : SX} {v : SY} (I : i_Rel k u v) (hk : k + 4 ≤ 2052) : wpX_spend (fun r => wpY_spend (fun r' v' => r' = r ∧ i_Rel (k + 4) u v') v) u := by
  have J : i_Rel (k + 4) u v := I
  obtain ⟨T, L, S, ml, kw, hw, aw, tc, lc, rc, ck, xd, xe, aS, bS, bW, bH, bK, rfl, rfl, hv⟩ := I
  obtain ⟨⟨ok, lk, dp, a1, a2, a3, a4⟩, hL, ⟨w1, w2, w3, ht⟩, hx, hW, hH, hB, hb, hz, h0, hS⟩ := id hv
  have hl8 : lc ≤ 8 := by omega
  by_cases hd : xd = 0
  · exact br_t hd (br_t hd ⟨rfl, J⟩)
  · have hr : rc = 1 := by
      rcases hx with q | q
      · exact absurd q hd
      · exact q.2
    have hb' : ∀ j, j < lc → S j < 256 := fun j hj => hb j (by omega)
    refine px_spend (S := S) hd ok (by omega) a4 hl8 ht (hS hd) hb' hL ?_
    exact br_f hd (py_filled hl8 hB hb hz ⟨9, py_sloop ok (by omega) (by omega) a4 hl8 ht hB hb hz hL (fun K => ⟨rfl, T, L, S, ml, kw, hw, aw, tc, lc, rc, ck, xd, xe, aS, bS, bW, bH, K, rfl, rfl, hv⟩) 8 0 rfl rfl⟩)
theorem i_vc_earliest {k : Nat} {u : SX} {v : SY} (I : i_Rel k u v) (hk : k + 4 ≤ 2052) : wpX_earliest (fun r => wpY_earliest (fun r' v' => r' = r ∧ i_Rel (k + 4) u v') v) u := by
  have J : i_Rel (k + 4) u v := I
  obtain ⟨T, L, S, ml, kw, hw, aw, tc, lc, rc, ck, xd, xe, aS, bS, bW, bH, bK, rfl, rfl, hv⟩ := I
  obtain ⟨⟨ok, lk, dp, a1, a2, a3, a4⟩, hL, ⟨w1, w2, w3, ht⟩, hx, hW, hH, hB, hb, hz, h0, hS⟩ := id hv
  have hl8 : lc ≤ 8 := by omega
  by_cases hd : xd = 0
  · exact br_t hd ⟨65, py_edraft hd hl8 hL hH ⟨rfl, J⟩ 64 0 rfl⟩
  · have hr : rc = 1 := by
      rcases hx with q | q
      · exact absurd q hd
      · exact q.2
    refine br_f hd ⟨65, px_eloop ok (by omega) a4 hl8 hL 64 0 rfl ?_⟩
    exact ⟨65, py_eloop hd ok (by omega) (by omega) a4 hl8 hL hH 64 0 bK rfl (fun K => ⟨rfl, T, L, S, ml, kw, hw, aw, tc, lc, rc, ck, xd, xe, aS, bS, bW, bH, K, rfl, rfl, hv⟩)⟩
theorem i_vc_slot {k : Nat} {u : SX} {v : SY} (I : i_Rel k u v) (hk : k + 4 ≤ 2052) (v1 : Int32) : wpX_slot (fun r => wpY_slot (fun r' => r' = r ∧ i_Rel (k + 4) u v) v v1) u v1 := by
  have J : i_Rel (k + 4) u v := I
  obtain ⟨T, L, S, ml, kw, hw, aw, tc, lc, rc, ck, xd, xe, aS, bS, bW, bH, bK, rfl, rfl, hv⟩ := I
  obtain ⟨⟨ok, lk, dp, a1, a2, a3, a4⟩, hL, ⟨w1, w2, w3, ht⟩, hx, hW, hH, hB, hb, hz, h0, hS⟩ := id hv
  by_cases hd : xd = 0
  · exact br_t hd (br_t hd ⟨rfl, J⟩)
  by_cases n1 : v1 < 0
  · exact br_f hd (br_t n1 (br_f hd (br_t n1 ⟨rfl, J⟩)))
  obtain ⟨i, hi, rfl⟩ := nI_of n1
  refine br_f hd (br_f n1 (pk_lt i lc (fun q => ⟨vp_in_nI (by omega) (by omega), ?_⟩) (fun q => ?_)))
  · refine br_f hd (br_f n1 (br_f (nI_ge q (by omega)) ⟨vp_in_nI (by omega) (by omega), ?_, J⟩))
    rw [nI_clamp hi, hB i (by omega), hS hd i q]
  · exact br_f hd (br_f n1 (br_t (nI_le q hi) ⟨rfl, J⟩))
theorem i_vc_token {k : Nat} {u : SX} {v : SY} (I : i_Rel k u v) (hk : k + 4 ≤ 2052) (v1 : Int32) : wpX_token (fun r => wpY_token (fun r' => r' = r ∧ i_Rel (k + 4) u v) v v1) u v1 := by
  have J : i_Rel (k + 4) u v := I
  obtain ⟨T, L, S, ml, kw, hw, aw, tc, lc, rc, ck, xd, xe, aS, bS, bW, bH, bK, rfl, rfl, hv⟩ := I
  obtain ⟨⟨ok, lk, dp, a1, a2, a3, a4⟩, -⟩ := id hv
  by_cases n1 : v1 < 0
  · exact br_t n1 (br_t n1 ⟨rfl, J⟩)
  obtain ⟨i, hi, rfl⟩ := nI_of n1
  refine br_f n1 (pk_lt i tc (fun q => ⟨vp_in_nI (by omega) (by omega), ?_⟩) (fun q => ?_))
  · exact br_f n1 (br_f (nI_ge q (by omega)) ⟨vp_in_nI (by omega) (by omega), rfl, J⟩)
  · exact br_f n1 (br_t (nI_le q hi) ⟨rfl, J⟩)
theorem i_vc_status {k : Nat} {u : SX} {v : SY} (I : i_Rel k u v) (hk : k + 4 ≤ 2052) : wpX_status (fun r => wpY_status (fun r' => r' = r ∧ i_Rel (k + 4) u v) v) u := by
  have J : i_Rel (k + 4) u v := I
  obtain ⟨T, L, S, ml, kw, hw, aw, tc, lc, rc, ck, xd, xe, aS, bS, bW, bH, bK, rfl, rfl, hv⟩ := I
  by_cases hd : xd = 0
  · exact nm_e (br_t hd (br_t hd ⟨Int32.add_zero _, J⟩))
  · exact nm_e (br_f hd (br_f hd ⟨rfl, J⟩))
