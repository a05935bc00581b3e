def ps_up (T : Nat → Nat) (k c : Nat) : Nat → Nat := fun j => if j = k then c else T j
theorem ps_up_s {T : Nat → Nat} {k c : Nat} : ps_up T k c k = c := if_pos rfl
theorem ps_up_n {T : Nat → Nat} {k c j : Nat} (h : ¬ j = k) : ps_up T k c j = T j := if_neg h
theorem px_upd {T : Nat → Nat} {k c : Nat} (hk : k < 2 ^ 31) : upd (fun j => nI (T j)) (nI k).toNatClampNeg (nI c) = fun j => nI (ps_up T k c j) := by
  rw [nI_clamp hk]
  funext j
  show (if j = k then nI c else nI (T j)) = nI (if j = k then c else T j)
  split <;> rfl
def ps_iv (T L S : Nat → Nat) (ml kw hw aw tc lc rc ck : Nat) (xd xe : Int32) (aS bS bW bH : Nat → Int32) : Prop :=
  (ps_ok T tc ∧ ps_lk T tc = lc ∧ ps_dp T tc = rc ∧ lc ≤ ml ∧ ml ≤ 8 ∧ tc + rc ≤ 2 * lc ∧ tc ≤ 15) ∧ (∀ j, j < lc → ps_fc (L j)) ∧ (kw ≤ 99 ∧ hw ≤ 99 ∧ aw ≤ 99 ∧ ck < 64) ∧ (xd = 0 ∨ (xd = 1 ∧ rc = 1)) ∧
  (∀ k, 1 ≤ k → k < 4 → bW k = nI (ps_w kw hw aw k)) ∧ (∀ c, 64 ≤ c → c < 192 → c % 64 < 8 → bH c = ps_i (ps_hd xe c)) ∧
  (∀ j, j < 8 → bS j = nI (S j)) ∧ (∀ j, j < 8 → S j < 256) ∧ (∀ j, lc ≤ j → j < 8 → S j = 0) ∧ (xd = 0 → ∀ j, j < 8 → S j = 0) ∧ (¬ xd = 0 → ∀ j, j < lc → aS j = nI (S j))
def i_Rel (_ : Nat) (u : SX) (v : SY) : Prop := ∃ (T L S : Nat → Nat) (ml kw hw aw tc lc rc ck : Nat) (xd xe : Int32) (aS bS bW bH bK : Nat → Int32),
  u = (nI ml, nI kw, nI hw, nI aw, nI tc, nI lc, nI rc, xd, xe, nI ck, (fun j => nI (T j)), (fun j => nI (L j)), aS) ∧ v = (nI tc, nI lc, nI rc, nI ck, nI ml, xd, (fun j => nI (T j)), (fun j => nI (L j)), bS, bW, bH, bK) ∧ ps_iv T L S ml kw hw aw tc lc rc ck xd xe aS bS bW bH
theorem i_up {k : Nat} {u : SX} {v : SY} (h : i_Rel k u v) : i_Rel (k + 4) u v := h
theorem ps_ok_up {T : Nat → Nat} {tc c : Nat} (h : ps_ok T tc) (hc : c < 320) (hj : 256 ≤ c → (c - 256) % 8 + 1 ≤ ps_dp T tc) : ps_ok (ps_up T tc c) (tc + 1) := by
  intro i hi
  have e : ∀ j, j < i → ps_up T tc c j = T j := fun j hj => ps_up_n (by omega)
  rw [ps_dp_c i e]
  by_cases z : i = tc
  · subst z
    rw [ps_up_s]
    exact ⟨hc, hj⟩
  · rw [ps_up_n z]
    exact h i (by omega)
theorem ps_dp_up {T : Nat → Nat} {tc c : Nat} : ps_dp (ps_up T tc c) (tc + 1) = if c < 256 then ps_dp T tc + 1 else ps_dp T tc - (c - 256) % 8 := by
  show (if ps_up T tc c tc < 256 then ps_dp (ps_up T tc c) tc + 1 else ps_dp (ps_up T tc c) tc - (ps_up T tc c tc - 256) % 8) = _
  rw [ps_up_s, ps_dp_c tc (fun j hj => ps_up_n (by omega))]
theorem ps_lk_up {T : Nat → Nat} {tc c : Nat} : ps_lk (ps_up T tc c) (tc + 1) = if c < 256 then ps_lk T tc + 1 else ps_lk T tc := by
  show (if ps_up T tc c tc < 256 then ps_lk (ps_up T tc c) tc + 1 else ps_lk (ps_up T tc c) tc) = _
  rw [ps_up_s, ps_lk_c tc (fun j hj => ps_up_n (by omega))]
theorem px_ge8 {x : Int32} (h : nI 8 ≤ x) : (7 : Int32) < x ∧ ¬ x < 0 := by
  rw [Int32.le_iff_toInt_le, nI_toInt (by decide)] at h
  constructor
  · rw [Int32.lt_iff_toInt_lt, show (7 : Int32).toInt = 7 by decide]
    omega
  · rw [Int32.lt_iff_toInt_lt, show (0 : Int32).toInt = 0 by decide]
    omega
theorem px_ge64 {x : Int32} (h : nI 64 ≤ x) : (63 : Int32) < x ∧ ¬ x < 0 ∧ ¬ x ≤ 63 := by
  rw [Int32.le_iff_toInt_le, nI_toInt (by decide)] at h
  refine ⟨?_, ?_, ?_⟩
  · rw [Int32.lt_iff_toInt_lt, show (63 : Int32).toInt = 63 by decide]
    omega
  · rw [Int32.lt_iff_toInt_lt, show (0 : Int32).toInt = 0 by decide]
    omega
  · rw [Int32.le_iff_toInt_le, show (63 : Int32).toInt = 63 by decide]
    omega
theorem px_sec (k : Nat) (hk : k = 1 ∨ k = 2) (p1 : Int32) : (∃ c, 64 ≤ c ∧ c < 192 ∧ c % 64 < 8 ∧ nI k = nI (c / 64) ∧ p1 = nI (c % 64) ∧ (∀ post : Int32 → Prop, post 1 → wX_isSecret_10 post p1) ∧ (∀ (post : Int32 → Prop) (v1 v2 v3 v4 v5 v6 : Int32) (w1 w2 w3 w4 w5 w6 : Nat → Int32), post 1 → wY_isSecret_10 post p1 v1 v2 v3 v4 v5 v6 w1 w2 w3 w4 w5 w6))
    ∨ ((∀ post : Int32 → Prop, post 0 → wX_isSecret_10 post p1) ∧ (∀ (post : Int32 → Prop) (v1 v2 v3 v4 v5 v6 : Int32) (w1 w2 w3 w4 w5 w6 : Nat → Int32), post 0 → wY_isSecret_10 post p1 v1 v2 v3 v4 v5 v6 w1 w2 w3 w4 w5 w6)) := by
  rcases pk_ix p1 (n := 8) (by decide) with h | h | ⟨j, hj, rfl⟩
  · exact Or.inr ⟨fun post hp => br_t h hp, fun post _ _ _ _ _ _ _ _ _ _ _ _ hp => br_t h hp⟩
  · exact Or.inr ⟨fun post hp => br_f (px_ge8 h).2 (br_t h hp), fun post _ _ _ _ _ _ _ _ _ _ _ _ hp => br_f (px_ge8 h).2 (br_t (px_ge8 h).1 hp)⟩
  · refine Or.inl ⟨k * 64 + j, by omega, by omega, by omega, ?_, ?_, fun post hp => br_f (nI_pos (by omega)) (br_f (nI_ge (b := 8) hj (by decide)) hp), fun post _ _ _ _ _ _ _ _ _ _ _ _ hp => br_f (nI_pos (by omega)) (br_f (nI_nlt (a := 7) (by omega) (by decide)) hp)⟩
    · rw [show (k * 64 + j) / 64 = k by omega]
    · rw [show (k * 64 + j) % 64 = j by omega]
theorem px_secret (p0 p1 : Int32) : (∃ c, 64 ≤ c ∧ c < 192 ∧ c % 64 < 8 ∧ p0 = nI (c / 64) ∧ p1 = nI (c % 64) ∧ (∀ post : Int32 → Prop, post 1 → wpX_isSecret post p0 p1) ∧ (∀ (post : Int32 → Prop) (v1 v2 v3 v4 v5 v6 : Int32) (w1 w2 w3 w4 w5 w6 : Nat → Int32), post 1 → wpY_isSecret post (v1, v2, v3, v4, v5, v6, w1, w2, w3, w4, w5, w6) p0 p1))
    ∨ ((∀ post : Int32 → Prop, post 0 → wpX_isSecret post p0 p1) ∧ (∀ (post : Int32 → Prop) (v1 v2 v3 v4 v5 v6 : Int32) (w1 w2 w3 w4 w5 w6 : Nat → Int32), post 0 → wpY_isSecret post (v1, v2, v3, v4, v5, v6, w1, w2, w3, w4, w5, w6) p0 p1)) := by
  by_cases h1 : p0 = 1
  · rcases px_sec 1 (Or.inl rfl) p1 with ⟨c, a, b, d, e0, e1, hX, hY⟩ | ⟨hX, hY⟩
    · exact Or.inl ⟨c, a, b, d, h1.trans e0, e1, fun post hp => br_t h1 (hX post hp), fun post _ _ _ _ _ _ _ _ _ _ _ _ hp => br_t h1 (hY post _ _ _ _ _ _ _ _ _ _ _ _ hp)⟩
    · exact Or.inr ⟨fun post hp => br_t h1 (hX post hp), fun post _ _ _ _ _ _ _ _ _ _ _ _ hp => br_t h1 (hY post _ _ _ _ _ _ _ _ _ _ _ _ hp)⟩
  · by_cases h2 : p0 = 2
    · rcases px_sec 2 (Or.inr rfl) p1 with ⟨c, a, b, d, e0, e1, hX, hY⟩ | ⟨hX, hY⟩
      · exact Or.inl ⟨c, a, b, d, h2.trans e0, e1, fun post hp => br_f h1 (br_t h2 (hX post hp)), fun post _ _ _ _ _ _ _ _ _ _ _ _ hp => br_f h1 (br_t h2 (hY post _ _ _ _ _ _ _ _ _ _ _ _ hp))⟩
      · exact Or.inr ⟨fun post hp => br_f h1 (br_t h2 (hX post hp)), fun post _ _ _ _ _ _ _ _ _ _ _ _ hp => br_f h1 (br_t h2 (hY post _ _ _ _ _ _ _ _ _ _ _ _ hp))⟩
    · exact Or.inr ⟨fun post hp => br_f h1 (br_f h2 hp), fun post _ _ _ _ _ _ _ _ _ _ _ _ hp => br_f h1 (br_f h2 hp)⟩
theorem px_fit (p0 p1 : Int32) : (∃ c, ps_fc c ∧ p0 = nI (c / 64) ∧ p1 = nI (c % 64) ∧ (∀ post : Int32 → Prop, post 1 → wpX_isFitPair post p0 p1) ∧ (∀ (post : Int32 → Prop) (v1 v2 v3 v4 v5 v6 : Int32) (w1 w2 w3 w4 w5 w6 : Nat → Int32), post 1 → wpY_isFit post (v1, v2, v3, v4, v5, v6, w1, w2, w3, w4, w5, w6) p0 p1))
    ∨ ((∀ post : Int32 → Prop, post 0 → wpX_isFitPair post p0 p1) ∧ (∀ (post : Int32 → Prop) (v1 v2 v3 v4 v5 v6 : Int32) (w1 w2 w3 w4 w5 w6 : Nat → Int32), post 0 → wpY_isFit post (v1, v2, v3, v4, v5, v6, w1, w2, w3, w4, w5, w6) p0 p1)) := by
  by_cases h3 : p0 = 3
  · have n1 : ¬ p0 = 1 := by rw [h3]; decide
    have n2 : ¬ p0 = 2 := by rw [h3]; decide
    have sY : ∀ (post : Int32 → Prop) (v1 v2 v3 v4 v5 v6 : Int32) (w1 w2 w3 w4 w5 w6 : Nat → Int32), post 0 → wpY_isSecret post (v1, v2, v3, v4, v5, v6, w1, w2, w3, w4, w5, w6) p0 p1 := fun post _ _ _ _ _ _ _ _ _ _ _ _ hp => br_f n1 (br_f n2 hp)
    rcases pk_ix p1 (n := 64) (by decide) with h | h | ⟨j, hj, rfl⟩
    · exact Or.inr ⟨fun post hp => br_t h3 (br_t h hp), fun post _ _ _ _ _ _ _ _ _ _ _ _ hp => sY _ _ _ _ _ _ _ _ _ _ _ _ _ (br_t rfl (br_t h3 (br_t h hp)))⟩
    · exact Or.inr ⟨fun post hp => br_t h3 (br_f (px_ge64 h).2.1 (br_t (px_ge64 h).1 hp)), fun post _ _ _ _ _ _ _ _ _ _ _ _ hp => sY _ _ _ _ _ _ _ _ _ _ _ _ _ (br_t rfl (br_t h3 (br_f (px_ge64 h).2.1 (br_t (px_ge64 h).1 hp))))⟩
    · have g : ¬ (63 : Int32) < nI j := nI_nlt (a := 63) (by omega) (by decide)
      refine Or.inl ⟨192 + j, ⟨by omega, by omega, by omega⟩, ?_, ?_, fun post hp => br_t h3 (br_f (nI_pos (by omega)) (br_f g hp)), fun post _ _ _ _ _ _ _ _ _ _ _ _ hp => sY _ _ _ _ _ _ _ _ _ _ _ _ _ (br_t rfl (br_t h3 (br_f (nI_pos (by omega)) (br_f g hp))))⟩
      · rw [h3, show (192 + j) / 64 = 3 by omega]
        rfl
      · rw [show (192 + j) % 64 = j by omega]
  · rcases px_secret p0 p1 with ⟨c, a, b, d, e0, e1, hX, hY⟩ | ⟨hX, hY⟩
    · exact Or.inl ⟨c, ⟨a, by omega, fun _ => d⟩, e0, e1, fun post hp => br_f h3 (hX _ ⟨by decide, hp⟩), fun post _ _ _ _ _ _ _ _ _ _ _ _ hp => hY _ _ _ _ _ _ _ _ _ _ _ _ _ (br_f (by decide) hp)⟩
    · exact Or.inr ⟨fun post hp => br_f h3 (hX _ ⟨by decide, hp⟩), fun post _ _ _ _ _ _ _ _ _ _ _ _ hp => hY _ _ _ _ _ _ _ _ _ _ _ _ _ (br_t rfl (br_f h3 hp))⟩
theorem px_cd (c : Nat) : nI (c / 64) * 64 + nI (c % 64) = nI c := by
  have e : nI (c / 64) * 64 = nI (c / 64 * 64) := pk_mul _ 64
  rw [e, nI_add, show c / 64 * 64 + c % 64 = c by omega]
theorem px_code {post : Int32 → Prop} {c : Nat} (hp : post (nI c)) : wpX_codeOf post (nI (c / 64)) (nI (c % 64)) := ek_v (P := post) (px_cd c) hp
theorem ps_hd_flip {e : Int32} {c c' : Nat} (a : 64 ≤ c) (b : c < 192) (d : c % 64 < 8) (a' : 64 ≤ c') (b' : c' < 192) (d' : c' % 64 < 8) :
    ps_hd (e ^^^ ((1 : Int32) <<< (nI ((c / 64 - 1) * 8 + c % 64) &&& 31))) c' = (ps_hd e c' ^^ decide (c' = c)) := by
  unfold ps_hd
  rw [b_xor, ps_1sh _ (by omega) _ (by omega)]
  refine congrArg _ ?_
  by_cases h : c' = c
  · rw [decide_eq_true h, decide_eq_true (by omega)]
  · rw [decide_eq_false h, decide_eq_false (by omega)]
section
variable {ml kw hw aw tc lc rc ck : Nat} {xd xe : Int32} {T L : Nat → Nat} {aS : Nat → Int32}
theorem px_append {post : SX → Prop} {c : Nat} (h : tc < 15) (hp : post (nI ml, nI kw, nI hw, nI aw, nI (tc + 1), nI lc, nI rc, xd, xe, nI ck, (fun j => nI (ps_up T tc c j)), (fun j => nI (L j)), aS)) : wpX_appendToken post (nI ml, nI kw, nI hw, nI aw, nI tc, nI lc, nI rc, xd, xe, nI ck, (fun j => nI (T j)), (fun j => nI (L j)), aS) (nI c) :=
  br_f (nI_ge (b := 15) h (by decide)) ⟨vp_in_nI h (by decide), nm_r (px_upd (by omega)) (nm_r (nI_1 tc) hp)⟩
end
