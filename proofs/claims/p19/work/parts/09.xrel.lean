def ps_up (T : Nat → Nat) (k c : Nat) : Nat → Nat := fun j => if j = k then c else T j
theorem ps_up_s {T : Nat → Nat} {k c : Nat} : ps_up T k c k = c := if_pos rfl
theorem ps_up_n {T : Nat → Nat} {k c j : Nat} (h : ¬ j = k) : ps_up T k c j = T j := if_neg h
theorem px_upd {T : Nat → Nat} {k c : Nat} (hk : k < 2 ^ 31) : upd (fun j => nI (T j)) (nI k).toNatClampNeg (nI c) = fun j => nI (ps_up T k c j) := by
  rw [nI_clamp hk]
  funext j
  show (if j = k then nI c else nI (T j)) = nI (if j = k then c else T j)
  split <;> rfl
theorem ps_ok_up {T : Nat → Nat} {tc c : Nat} (h : ps_ok T tc) (hc : c < 320) (hj : 256 ≤ c → (c - 256) % 8 + 1 ≤ ps_dp T tc) : ps_ok (ps_up T tc c) (tc + 1) := by
  intro i hi
  have e : ∀ j, j < i → ps_up T tc c j = T j := fun j hj => ps_up_n (by omega)
  rw [ps_dp_c i e]
  by_cases z : i = tc
  · subst z
    rw [ps_up_s]
    exact ⟨hc, hj⟩
  · rw [ps_up_n z]
    exact h i (by omega)
theorem ps_dp_up {T : Nat → Nat} {tc c : Nat} : ps_dp (ps_up T tc c) (tc + 1) = if c < 256 then ps_dp T tc + 1 else ps_dp T tc - (c - 256) % 8 := by
  show (if ps_up T tc c tc < 256 then ps_dp (ps_up T tc c) tc + 1 else ps_dp (ps_up T tc c) tc - (ps_up T tc c tc - 256) % 8) = _
  rw [ps_up_s, ps_dp_c tc (fun j hj => ps_up_n (by omega))]
theorem ps_lk_up {T : Nat → Nat} {tc c : Nat} : ps_lk (ps_up T tc c) (tc + 1) = if c < 256 then ps_lk T tc + 1 else ps_lk T tc := by
  show (if ps_up T tc c tc < 256 then ps_lk (ps_up T tc c) tc + 1 else ps_lk (ps_up T tc c) tc) = _
  rw [ps_up_s, ps_lk_c tc (fun j hj => ps_up_n (by omega))]
theorem px_cd (c : Nat) : nI (c / 64) * 64 + nI (c % 64) = nI c := by
  have e : nI (c / 64) * 64 = nI (c / 64 * 64) := pk_mul _ 64
  rw [e, nI_add, show c / 64 * 64 + c % 64 = c by omega]
theorem px_code {post : Int32 → Prop} {c : Nat} (hp : post (nI c)) : wpX_codeOf post () (nI (c / 64)) (nI (c % 64)) := ek_v (P := post) (px_cd c) hp
theorem ps_hd_flip {e : Int32} {c c' : Nat} (a : 64 ≤ c) (b : c < 192) (d : c % 64 < 8) (a' : 64 ≤ c') (b' : c' < 192) (d' : c' % 64 < 8) :
    ps_hd (e ^^^ ((1 : Int32) <<< (nI ((c / 64 - 1) * 8 + c % 64) &&& 31))) c' = (ps_hd e c' ^^ decide (c' = c)) := by
  unfold ps_hd
  rw [b_xor, ps_1sh _ (by omega) _ (by omega)]
  refine congrArg _ ?_
  by_cases h : c' = c
  · rw [decide_eq_true h, decide_eq_true (by omega)]
  · rw [decide_eq_false h, decide_eq_false (by omega)]
section
variable {ml kw hw aw tc lc rc ck : Nat} {xd xe : Int32} {T L : Nat → Nat} {aS : Nat → Int32}
theorem px_append {post : St2 → Prop} {c : Nat} (h : tc < 15) (hp : post (nI ml, nI kw, nI hw, nI aw, nI (tc + 1), nI lc, nI rc, xd, xe, nI ck, (fun j => nI (ps_up T tc c j)), (fun j => nI (L j)), aS)) : wpX_appendToken post (nI ml, nI kw, nI hw, nI aw, nI tc, nI lc, nI rc, xd, xe, nI ck, (fun j => nI (T j)), (fun j => nI (L j)), aS) (nI c) :=
  br_f (nI_ge (b := 15) h (by decide)) ⟨vp_in_nI h (by decide), nm_r (px_upd (by omega)) (nm_r (nI_1 tc) hp)⟩
end
