theorem px_clampv (x : Int32) (a b : Nat) (hab : a ≤ b) (hb : b < 2 ^ 30) : ∃ m : Nat, a ≤ m ∧ m ≤ b ∧ (∀ post : Int32 → Prop, post (nI m) → wpX_clamp post x (nI a) (nI b)) ∧ (∀ (post : Int32 → Prop) (v1 v2 v3 v4 v5 v6 : Int32) (w1 w2 w3 w4 w5 w6 : Nat → Int32), post (nI m) → wpY_clamp post (v1, v2, v3, v4, v5, v6, w1, w2, w3, w4, w5, w6) x (nI a) (nI b)) := by
  by_cases h1 : nI a ≤ x
  · have h0 : ¬ x < 0 := by
      rw [Int32.le_iff_toInt_le, nI_toInt (by omega)] at h1
      rw [Int32.lt_iff_toInt_lt, show (0 : Int32).toInt = 0 by decide]
      omega
    obtain ⟨j, hj, rfl⟩ := nI_of h0
    have h1' := (nI_leI (by omega) hj).mp h1
    by_cases h2 : nI j ≤ nI b
    · have h2' := (nI_leI hj (by omega)).mp h2
      exact ⟨j, h1', h2', fun post hp => br_t h1 (br_t h2 hp), fun post _ _ _ _ _ _ _ _ _ _ _ _ hp => br_t h1 (br_t h2 hp)⟩
    · exact ⟨b, hab, Nat.le_refl _, fun post hp => br_t h1 (br_f h2 hp), fun post _ _ _ _ _ _ _ _ _ _ _ _ hp => br_t h1 (br_f h2 hp)⟩
  · exact ⟨a, Nat.le_refl _, hab, fun post hp => br_f h1 hp, fun post _ _ _ _ _ _ _ _ _ _ _ _ hp => br_f h1 hp⟩
theorem ps_iv0 {ml kw hw aw : Nat} (h1 : ml ≤ 8) (h2 : kw ≤ 99) (h3 : hw ≤ 99) (h4 : aw ≤ 99) : ps_iv (fun _ => 0) (fun _ => 0) (fun _ => 0) ml kw hw aw 0 0 0 0 0 0 (fun _ => 0) (fun _ => 0) (upd (upd (upd (fun _ => 0) 1 (nI kw)) 2 (nI hw)) 3 (nI aw)) (fun _ => 0) := by
  refine ⟨⟨fun i h => absurd h (Nat.not_lt_zero i), rfl, rfl, Nat.zero_le _, h1, Nat.le_refl 0, Nat.zero_le _⟩, fun j h => absurd h (Nat.not_lt_zero j), ⟨h2, h3, h4, by decide⟩, Or.inl rfl, ?_, ?_, fun _ _ => rfl, fun _ _ => by show 0 < 256; decide, fun _ _ _ => rfl, fun _ _ _ => rfl, fun h => absurd rfl h⟩
  · intro k k1 k2
    have e : k = 1 ∨ k = 2 ∨ k = 3 := by omega
    rcases e with rfl | rfl | rfl
    · rfl
    · rfl
    · rfl
  · intro c _ _ _
    show (0 : Int32) = ps_i (bt 0 _)
    rw [b_0]
    rfl
theorem i_vc0 (k0 : Int32) (k1 : Int32) (k2 : Int32) (k3 : Int32) : wpX_init (fun u => wpY_init (fun v => i_Rel 4 u v) k0 k1 k2 k3) k0 k1 k2 k3 := by
  obtain ⟨ml, _, b0, x0, y0⟩ := px_clampv k0 2 8 (by decide) (by decide)
  obtain ⟨kw, _, b1, x1, y1⟩ := px_clampv k1 1 99 (by decide) (by decide)
  obtain ⟨hw, _, b2, x2, y2⟩ := px_clampv k2 1 99 (by decide) (by decide)
  obtain ⟨aw, _, b3, x3, y3⟩ := px_clampv k3 1 99 (by decide) (by decide)
  refine x0 _ (x1 _ (x2 _ (x3 _ ?_)))
  refine y0 _ _ _ _ _ _ _ _ _ _ _ _ _ (y1 _ _ _ _ _ _ _ _ _ _ _ _ _ (nm_e (y2 _ _ _ _ _ _ _ _ _ _ _ _ _ (nm_e (y3 _ _ _ _ _ _ _ _ _ _ _ _ _ (nm_e ?_))))))
  exact ⟨fun _ => 0, fun _ => 0, fun _ => 0, ml, kw, hw, aw, 0, 0, 0, 0, 0, 0, fun _ => 0, fun _ => 0, _, fun _ => 0, fun _ => 0, rfl, rfl, ps_iv0 b0 b1 b2 b3⟩
section
variable {ml kw hw aw tc lc rc ck : Nat} {xd xe : Int32} {T L S : Nat → Nat} {aS bS bW bH bK : Nat → Int32}
theorem ps_iv_lock {c : Nat} (h : ps_iv T L S ml kw hw aw tc lc rc ck xd xe aS bS bW bH) (hd : xd = 0) (hc : ps_fc c) (hl : lc < ml) : ps_iv (ps_up T tc c) (ps_up L lc c) S ml kw hw aw (tc + 1) (lc + 1) (rc + 1) ck xd xe aS bS bW bH := by
  obtain ⟨⟨ok, lk, dp, a1, a2, a3, a4⟩, hL, hn, hx, hW, hH, hB, hb, hz, h0, hS⟩ := h
  have c2 := hc.2.1
  refine ⟨⟨ps_ok_up ok (by omega) (fun q => by omega), ?_, ?_, by omega, a2, by omega, by omega⟩, ?_, hn, Or.inl hd, hW, hH, hB, hb, ?_, h0, fun q => absurd hd q⟩
  · rw [ps_lk_up, if_pos c2, lk]
  · rw [ps_dp_up, if_pos c2, dp]
  · intro j hj
    by_cases e : j = lc
    · rw [e, ps_up_s]
      exact hc
    · rw [ps_up_n e]
      exact hL j (by omega)
  · exact fun j a b => h0 hd j b
theorem ps_iv_join {k n : Nat} (h : ps_iv T L S ml kw hw aw tc lc rc ck xd xe aS bS bW bH) (hd : xd = 0) (h1 : 1 ≤ k) (h2 : k ≤ n) (h3 : 2 ≤ n) (h4 : n ≤ 8) (h5 : n ≤ rc) : ps_iv (ps_up T tc (256 + (k - 1) * 8 + (n - 1))) L S ml kw hw aw (tc + 1) lc (rc - n + 1) ck xd xe aS bS bW bH := by
  obtain ⟨⟨ok, lk, dp, a1, a2, a3, a4⟩, hL, hn, hx, hW, hH, hB, hb, hz, h0, hS⟩ := h
  have e : (256 + (k - 1) * 8 + (n - 1) - 256) % 8 = n - 1 := by omega
  refine ⟨⟨ps_ok_up ok (by omega) (fun q => by rw [e, dp]; omega), ?_, ?_, a1, a2, by omega, by omega⟩, hL, hn, Or.inl hd, hW, hH, hB, hb, hz, h0, fun q => absurd hd q⟩
  · rw [ps_lk_up, if_neg (by omega), lk]
  · rw [ps_dp_up, if_neg (by omega), dp, e]
    omega
theorem ps_fs0 (j : Nat) : ps_fs L 0 j = 0 := by
  rw [ps_fs, Nat.zero_div, if_neg (by decide)]
theorem ps_iv_seal {a : Nat → Int32} (h : ps_iv T L S ml kw hw aw tc lc rc ck xd xe aS bS bW bH) (hd : xd = 0) (hr : rc = 1) (ha : ∀ j, j < lc → a j = nI (ps_fs L 0 j)) : ps_iv T L S ml kw hw aw tc lc rc ck 1 xe a bS bW bH := by
  obtain ⟨⟨ok, lk, dp, a1, a2, a3, a4⟩, hL, hn, hx, hW, hH, hB, hb, hz, h0, hS⟩ := h
  refine ⟨⟨ok, lk, dp, a1, a2, a3, a4⟩, hL, hn, Or.inr ⟨rfl, hr⟩, hW, hH, hB, hb, hz, fun q => absurd q (by decide), fun _ j hj => ?_⟩
  rw [ha j hj, ps_fs0, h0 hd j (by omega)]
theorem ps_iv_reopen {b : Nat → Int32} (h : ps_iv T L S ml kw hw aw tc lc rc ck xd xe aS bS bW bH) (hb0 : ∀ j, j < 8 → b j = 0) : ps_iv T L (fun _ => 0) ml kw hw aw 0 0 0 ck 0 xe aS b bW bH := by
  obtain ⟨⟨ok, lk, dp, a1, a2, a3, a4⟩, hL, hn, hx, hW, hH, hB, hb, hz, h0, hS⟩ := h
  exact ⟨⟨fun i h => absurd h (Nat.not_lt_zero i), rfl, rfl, Nat.zero_le _, a2, Nat.le_refl 0, Nat.zero_le _⟩, fun j h => absurd h (Nat.not_lt_zero j), hn, Or.inl rfl, hW, hH, hb0, fun _ _ => by show 0 < 256; decide, fun _ _ _ => rfl, fun _ _ _ => rfl, fun h => absurd rfl h⟩
theorem ps_iv_time {t : Nat} (h : ps_iv T L S ml kw hw aw tc lc rc ck xd xe aS bS bW bH) (ht : t < 64) : ps_iv T L S ml kw hw aw tc lc rc t xd xe aS bS bW bH := by
  obtain ⟨a, hL, ⟨n1, n2, n3, n4⟩, r⟩ := h
  exact ⟨a, hL, ⟨n1, n2, n3, ht⟩, r⟩
theorem ps_iv_wit {m : Nat} {a b : Nat → Int32} (h : ps_iv T L S ml kw hw aw tc lc rc ck xd xe aS bS bW bH) (hd : ¬ xd = 0) (hm : m < 2 ^ lc) (ha : ∀ j, j < lc → a j = nI (ps_fs L m j)) (hb' : ∀ j, j < 8 → b j = nI (ps_fs L m j)) : ps_iv T L (ps_fs L m) ml kw hw aw tc lc rc ck xd xe a b bW bH := by
  obtain ⟨⟨ok, lk, dp, a1, a2, a3, a4⟩, hL, hn, hx, hW, hH, hB, hb, hz, h0, hS⟩ := h
  have z : ∀ j, lc ≤ j → ps_fs L m j = 0 := fun j hj => by rw [ps_fs, ps_hi hm hj, if_neg (by decide)]
  refine ⟨⟨ok, lk, dp, a1, a2, a3, a4⟩, hL, hn, hx, hW, hH, hb', ?_, fun j a _ => z j a, fun q => absurd q hd, fun _ => ha⟩
  intro j hj
  by_cases q : j < lc
  · unfold ps_fs
    split
    · exact (hL j q).2.1
    · decide
  · rw [z j (by omega)]
    decide
theorem ps_iv_put {i c : Nat} (h : ps_iv T L S ml kw hw aw tc lc rc ck xd xe aS bS bW bH) (hd : ¬ xd = 0) (hi : i < lc) (hc : c < 256) : ps_iv T L (ps_up S i c) ml kw hw aw tc lc rc ck xd xe (upd aS i (nI c)) (upd bS i (nI c)) bW bH := by
  obtain ⟨⟨ok, lk, dp, a1, a2, a3, a4⟩, hL, hn, hx, hW, hH, hB, hb, hz, h0, hS⟩ := h
  refine ⟨⟨ok, lk, dp, a1, a2, a3, a4⟩, hL, hn, hx, hW, hH, ?_, ?_, ?_, fun q => absurd q hd, fun _ => ?_⟩
  · intro j hj
    by_cases e : j = i
    · rw [e, pk_us, ps_up_s]
    · rw [pk_un e, ps_up_n e]
      exact hB j hj
  · intro j hj
    by_cases e : j = i
    · rw [e, ps_up_s]
      exact hc
    · rw [ps_up_n e]
      exact hb j hj
  · intro j p q
    rw [ps_up_n (by omega)]
    exact hz j p q
  · intro j hj
    by_cases e : j = i
    · rw [e, pk_us, ps_up_s]
    · rw [pk_un e, ps_up_n e]
      exact hS hd j hj
theorem ps_iv_hold {c : Nat} {e' : Int32} {b : Bool} (h : ps_iv T L S ml kw hw aw tc lc rc ck xd xe aS bS bW bH) (a : 64 ≤ c) (a2 : c < 192) (a3 : c % 64 < 8) (h1 : ps_hd e' c = b) (h2 : ∀ c', 64 ≤ c' → c' < 192 → c' % 64 < 8 → ¬ c' = c → ps_hd e' c' = ps_hd xe c') : ps_iv T L S ml kw hw aw tc lc rc ck xd e' aS bS bW (upd bH c (ps_i b)) := by
  obtain ⟨p1, hL, hn, hx, hW, hH, r⟩ := h
  refine ⟨p1, hL, hn, hx, hW, ?_, r⟩
  intro c' q1 q2 q3
  by_cases e : c' = c
  · rw [e, pk_us, h1]
  · rw [pk_un e, h2 c' q1 q2 q3 e]
    exact hH c' q1 q2 q3
end
