theorem pl_cellx {post : Int32 → Prop} {N : Nat} {xs : Nat → Int32} {x : Int32} (k : Nat) (hx : x = nI k) (hN : N < 2 ^ 31) (hk : k < 2 ^ 31) (hp : ∀ r, post r) : wpL_cell post N xs () x := by
  subst hx
  exact pl_cell hN hk hp
theorem pl_pickx {post : Int32 → Prop} {c x : Int32} (m : Nat) (hx : x = nI m) (h0 : 0 < m) (hm : m < 2 ^ 31) (hp : ∀ j, j < m → post (nI j)) : wpL_pick post () c x := by
  subst hx
  exact pl_pick h0 hm hp
theorem pl_2 (k : Nat) : nI k + 2 = nI (k + 2) := nI_add k 2
theorem pl_3 (k : Nat) : nI k + 3 = nI (k + 3) := nI_add k 3
theorem pl_a1 (k : Nat) : 1 + nI k = nI (1 + k) := nI_add 1 k
theorem pl_a2 (k : Nat) : 2 + nI k = nI (2 + k) := nI_add 2 k
theorem ps_pt0 (T : Nat → Nat) (p : Nat) : ps_pt T 0 p = 0 := by
  unfold ps_pt
  rw [show min (0 - 7 * p) 7 = 0 by omega]
  rfl
def pv_dr (T L : Nat → Nat) (ml kw hw aw tc lc rc : Nat) : Prop := ps_ok T tc ∧ ps_lk T tc = lc ∧ ps_dp T tc = rc ∧ lc ≤ ml ∧ ml ≤ 8 ∧ tc + rc ≤ 2 * lc ∧ tc ≤ 15 ∧ (∀ j, j < lc → ps_fc (L j)) ∧ 1 ≤ kw ∧ kw ≤ 99 ∧ 1 ≤ hw ∧ hw ≤ 99 ∧ 1 ≤ aw ∧ aw ≤ 99
section
variable {post : Int32 → Prop} {N : Nat} {xs : Nat → Int32} {J63 : Int32 → Int32 → Int32 → Int32 → Int32 → Int32 → Int32 → Int32 → Int32 → Int32 → Int32 → Int32 → (Nat → Int32) → (Nat → Int32) → (Nat → Int32) → Prop} {J104 : Int32 → Int64 → Int64 → Int64 → Int64 → Int32 → Int32 → Int32 → Int32 → Int32 → Int32 → Int32 → Int32 → Int32 → Int32 → Int32 → Int32 → Int32 → (Nat → Int32) → (Nat → Int32) → (Nat → Int32) → Prop} {J288 : Int32 → Int64 → Int64 → Int64 → Int32 → Int32 → Int32 → Int32 → Int32 → Int32 → Int32 → Int32 → Int32 → Int32 → Int32 → Int32 → Int32 → (Nat → Int32) → (Nat → Int32) → (Nat → Int32) → Prop} {x1 ev : Int32} {kc ks k0 : Nat}
variable {ml kw hw aw : Nat} {xe : Int32}
theorem pl_467 {T L : Nat → Nat} {tc lc rc en : Nat} {xd : Int32} (V : pv_ok T L ml kw hw aw tc lc rc) (hd : ¬ xd = 0) (h1 : 1 ≤ lc) (hN : N < 2 ^ 31) (hen : en < 2 ^ 20) (hpost : post 1)
    (hJ : ∀ (k : Nat) (ev xe : Int32) (ck : Nat) (S : Nat → Nat) (aS : Nat → Int32), k0 < k → k < N → ck < 64 → pv_ev S lc xe ev aS → J63 (nI k) ev (nI ml) (nI kw) (nI hw) (nI aw) (nI tc) (nI lc) (nI rc) xd xe (nI ck) (fun j => nI (T j)) (fun j => nI (L j)) aS) :
    ∀ (d st k : Nat) (ev xe : Int32) (ck : Nat) (S : Nat → Nat) (aS : Nat → Int32), st + d = en + 3 → k0 < k → k + 3 * d < 2 ^ 30 → ck < 64 → pv_ev S lc xe ev aS →
      wL_law_467 post N xs J63 x1 (nI lc) (lN (ps_pt T tc 0)) (lN (ps_pt T tc 1)) (lN (ps_pt T tc 2)) (lN (ps_pk L 8 0 lc)) (nI tc) (nI en) kc ks (d + 1) (nI k) ev (nI st) (nI ml) (nI kw) (nI hw) (nI aw) (nI tc) (nI lc) (nI rc) xd xe (nI ck) (fun j => nI (T j)) (fun j => nI (L j)) aS := by
  have h8 : lc ≤ 8 := Nat.le_trans V.2.2.2.2.1 V.2.2.2.2.2.1
  intro d
  induction d with
  | zero =>
    intro st k ev xe ck S aS hs hk hb hck E
    refine pk_le (en + 3) st (fun _ => pk_lt k N (fun q => hJ k ev xe ck S aS hk q hck E) (fun _ => hpost)) (fun q => ?_) (pl_3 en) rfl
    omega
  | succ d ih =>
    intro st k ev xe ck S aS hs hk hb hck E
    have n : ∀ k', k < k' + 1 → k' + 3 * d < 2 ^ 30 → ∀ (ev xe : Int32) (ck : Nat) (S : Nat → Nat) (aS : Nat → Int32), ck < 64 → pv_ev S lc xe ev aS → wL_law_467 post N xs J63 x1 (nI lc) (lN (ps_pt T tc 0)) (lN (ps_pt T tc 1)) (lN (ps_pt T tc 2)) (lN (ps_pk L 8 0 lc)) (nI tc) (nI en) kc ks (d + 1) (nI k') ev (nI (st + 1)) (nI ml) (nI kw) (nI hw) (nI aw) (nI tc) (nI lc) (nI rc) xd xe (nI ck) (fun j => nI (T j)) (fun j => nI (L j)) aS :=
      fun k' a b ev xe ck S aS c e => ih (st + 1) k' ev xe ck S aS (by omega) (by omega) b c e
    refine pk_le (en + 3) st (fun q => ?_) (fun q => pk_le lc st (fun q2 => pk_le en st (fun q3 => pk_eq st en (fun q4 => ?_) (fun q4 => ?_)) (fun q3 => ?_)) (fun q2 => ?_)) (pl_3 en) rfl
    · omega
    · exact pa_580 (x := 6) (i := 0) V hd hck E (by omega) (by decide) (n k (by omega) (by omega))
    · exact pa_580 (x := 9) (i := 0) V hd hck E (by omega) (by decide) (n k (by omega) (by omega))
    · refine pl_cell hN (by omega) (fun r1 => pl_pickx 16 rfl (by decide) (by decide) (fun x hx => pl_cellx (k + 1) (nI_1 k) hN (by omega) (fun r2 => pl_cellx (k + 2) (pl_2 k) hN (by omega) (fun r3 => pl_pick (by omega) (by omega) (fun i hi => nm_r (pl_3 k) ?_)))))
      exact pa_580 V hd hck E hi hx (n (k + 3) (by omega) (by omega))
    · refine nm_r (nI_1 k) (pl_cell hN (by omega) (fun r1 => ?_))
      exact pa_580 (x := 0) (i := st) V hd hck E q2 (by decide) (n (k + 1) (by omega) (by omega))
theorem pv_join {T L : Nat → Nat} {tc lc rc a b : Nat} (h : pv_dr T L ml kw hw aw tc lc rc) (h1 : 1 ≤ a) (h2 : a ≤ b) (h3 : 2 ≤ b) (h4 : b ≤ 8) (h5 : b ≤ rc) : pv_dr (ps_up T tc (256 + (a - 1) * 8 + (b - 1))) L ml kw hw aw (tc + 1) lc (rc - b + 1) := by
  obtain ⟨ok, lk, dp, a1, a2, a3, a4, r⟩ := h
  have e : (256 + (a - 1) * 8 + (b - 1) - 256) % 8 = b - 1 := by omega
  refine ⟨ps_ok_up ok (by omega) (fun q => by rw [e, dp]; omega), ?_, ?_, a1, a2, by omega, by omega, r⟩
  · rw [ps_lk_up, if_neg (by omega), lk]
  · rw [ps_dp_up, if_neg (by omega), dp, e]
    omega
theorem pv_lock {T L : Nat → Nat} {tc lc rc c : Nat} (h : pv_dr T L ml kw hw aw tc lc rc) (hc : ps_fc c) (hl : lc < ml) : pv_dr (ps_up T tc c) (ps_up L lc c) ml kw hw aw (tc + 1) (lc + 1) (rc + 1) := by
  obtain ⟨ok, lk, dp, a1, a2, a3, a4, hL, r⟩ := h
  have c2 := hc.2.1
  refine ⟨ps_ok_up ok (by omega) (fun q => by omega), ?_, ?_, by omega, a2, by omega, by omega, ?_, r⟩
  · rw [ps_lk_up, if_pos c2, lk]
  · rw [ps_dp_up, if_pos c2, dp]
  · intro j hj
    by_cases e : j = lc
    · rw [e, ps_up_s]
      exact hc
    · rw [ps_up_n e]
      exact hL j (by omega)
theorem pv_T {T L : Nat → Nat} {tc lc rc : Nat} (h : pv_dr T L ml kw hw aw tc lc rc) : ∀ j, j < tc → T j < 512 := fun j hj => by
  have := (h.1 j hj).1
  omega
theorem pl_put3 {T : Nat → Nat} {tc c : Nat} {Q : Int64 → Int64 → Int64 → Prop} (htc : tc < 21) (hT : ∀ j, j < tc → T j < 512) (hc : c < 512)
    (hQ : Q (lN (ps_pt (ps_up T tc c) (tc + 1) 0)) (lN (ps_pt (ps_up T tc c) (tc + 1) 1)) (lN (ps_pt (ps_up T tc c) (tc + 1) 2))) :
    wpL_put (fun r0 => wpL_put (fun r1 => wpL_put (fun r2 => Q r0 r1 r2) () (lN (ps_pt T tc 2)) 2 (nI tc) (nI c)) () (lN (ps_pt T tc 1)) 1 (nI tc) (nI c)) () (lN (ps_pt T tc 0)) 0 (nI tc) (nI c) :=
  pl_put (p := 0) htc (by decide) hT hc (pl_put (p := 1) htc (by decide) hT hc (pl_put (p := 2) htc (by decide) hT hc hQ))
theorem pl_316 {T L : Nat → Nat} {tc lc rc ck want i k r : Nat} {xd x20 x22 : Int32} {aS : Nat → Int32} {codes : Int64} (D : pv_dr T L ml kw hw aw tc lc rc) (hd : xd = 0) (hN : N < 2 ^ 31) (hk : k < 2 ^ 30) (h2 : 2 ≤ rc) (hr : rc ≤ 8)
    (hJ : ∀ (T : Nat → Nat) (rc' : Nat), pv_dr T L ml kw hw aw (tc + 1) lc rc' → 1 ≤ rc' → rc' + 1 ≤ rc → J288 (nI (k + 2)) (lN (ps_pt T (tc + 1) 0)) (lN (ps_pt T (tc + 1) 1)) (lN (ps_pt T (tc + 1) 2)) (nI (tc + 1)) (nI rc') (nI (r + 1)) (nI ml) (nI kw) (nI hw) (nI aw) (nI (tc + 1)) (nI lc) (nI rc') xd xe (nI ck) (fun j => nI (T j)) (fun j => nI (L j)) aS) :
    wL_law_316 post N xs J63 J104 J288 x1 (nI k) ev (nI want) (lN (ps_pt T tc 0)) (lN (ps_pt T tc 1)) (lN (ps_pt T tc 2)) codes (nI tc) (nI rc) (nI i) x20 x22 (nI r) kc ks (nI ml) (nI kw) (nI hw) (nI aw) (nI tc) (nI lc) (nI rc) xd xe (nI ck) (fun j => nI (T j)) (fun j => nI (L j)) aS := by
  obtain ⟨ok, lk, dp, a1, a2, a3, a4, hL, _⟩ := id D
  have e1 : nI rc - 1 = nI (rc - 1) := pk_sub (b := 1) (by omega)
  refine pl_cell hN (by omega) (fun r1 => pl_pickx (rc - 1) e1 (by omega) (by omega) (fun j hj => nm_r (pl_a2 j) (pl_cellx (k + 1) (nI_1 k) hN (by omega) (fun r2 => pl_pick (by omega) (by omega) (fun q hq => nm_r (pl_a1 q) (nm_r (pl_2 k) ?_))))))
  refine px_joinok (k := 1 + q) (n := 2 + j) hd (by omega) (by omega) (by omega) (by omega) (by omega) hr (by omega) ?_
  have ec : (256 + (nI (1 + q) - 1) * 8) + (nI (2 + j) - 1) = nI (256 + (1 + q - 1) * 8 + (2 + j - 1)) := by
    have e1 : nI (1 + q) - 1 = nI (1 + q - 1) := pk_sub (b := 1) (by omega)
    have e2 : nI (2 + j) - 1 = nI (2 + j - 1) := pk_sub (b := 1) (by omega)
    have e3 : nI (1 + q - 1) * 8 = nI ((1 + q - 1) * 8) := pk_mul _ 8
    have e4 : 256 + nI ((1 + q - 1) * 8) = nI (256 + (1 + q - 1) * 8) := nI_add 256 _
    rw [e1, e2, e3, e4, nI_add]
  have er : nI rc - (nI (2 + j) - 1) = nI (rc - (2 + j) + 1) := by
    have e2 : nI (2 + j) - 1 = nI (2 + j - 1) := pk_sub (b := 1) (by omega)
    rw [e2, pk_sub (by omega)]
    exact congrArg nI (by omega)
  refine nm_r ec (pl_put3 (by omega) (pv_T D) (by omega) (nm_r (nI_1 tc) (nm_r er (nm_r (nI_1 r) ?_))))
  exact hJ _ (rc - (2 + j) + 1) (pv_join D (by omega) (by omega) (by omega) (by omega) (by omega)) (by omega) (by omega)
theorem pl_288 {L : Nat → Nat} {lc ck want i K : Nat} {xd x20 : Int32} {aS : Nat → Int32} {codes : Int64} {last : Bool} (hd : xd = 0) (hN : N < 2 ^ 31) (hK : K < 2 ^ 29) (hi : i < 2 ^ 20)
    (hJ : ∀ (T : Nat → Nat) (tc rc k : Nat), pv_dr T L ml kw hw aw tc lc rc → 1 ≤ rc → (last = true → rc = 1) → k0 < k → k ≤ K → J104 (nI k) (lN (ps_pt T tc 0)) (lN (ps_pt T tc 1)) (lN (ps_pt T tc 2)) codes (nI tc) (nI rc) (nI (i + 1)) (nI ml) (nI kw) (nI hw) (nI aw) (nI tc) (nI lc) (nI rc) xd xe (nI ck) (fun j => nI (T j)) (fun j => nI (L j)) aS) :
    ∀ (d r k : Nat) (T : Nat → Nat) (tc rc : Nat), r + d = 7 → pv_dr T L ml kw hw aw tc lc rc → 1 ≤ rc → rc + r ≤ 8 → k0 < k → k + 2 * d ≤ K →
      wL_law_288 post N xs J63 J104 x1 ev (nI want) codes (nI i) x20 (ps_i last) kc ks (d + 1) (nI k) (lN (ps_pt T tc 0)) (lN (ps_pt T tc 1)) (lN (ps_pt T tc 2)) (nI tc) (nI rc) (nI r) (nI ml) (nI kw) (nI hw) (nI aw) (nI tc) (nI lc) (nI rc) xd xe (nI ck) (fun j => nI (T j)) (fun j => nI (L j)) aS := by
  intro d
  induction d with
  | zero =>
    intro r k T tc rc hr D h1 h8 hk hb
    refine br_t (nI_le (a := 7) (by omega) (by omega)) (nm_r (nI_1 i) (hJ T tc rc k D h1 (fun _ => by omega) hk (by omega)))
  | succ d ih =>
    intro r k T tc rc hr D h1 h8 hk hb
    have g : 2 ≤ rc → wL_law_316 post N xs J63 J104 (wL_law_288 post N xs J63 J104 x1 ev (nI want) codes (nI i) x20 (ps_i last) kc ks (d + 1)) x1 (nI k) ev (nI want) (lN (ps_pt T tc 0)) (lN (ps_pt T tc 1)) (lN (ps_pt T tc 2)) codes (nI tc) (nI rc) (nI i) x20 (ps_i last) (nI r) kc ks (nI ml) (nI kw) (nI hw) (nI aw) (nI tc) (nI lc) (nI rc) xd xe (nI ck) (fun j => nI (T j)) (fun j => nI (L j)) aS :=
      fun q => pl_316 D hd hN (by omega) q (by omega) (fun T' rc' D' a b => ih (r + 1) (k + 2) T' (tc + 1) rc' (by omega) D' a (by omega) (by omega) (by omega))
    refine br_f (nI_ge (b := 7) (by omega) (by decide)) (pk_lt rc 2 (fun q => ?_) (fun q => ek_if (ps_i0 last) (fun z => pk_eq r 0 (fun q2 => br_c (fun _ => ?_) (fun _ => g q)) (fun q2 => ?_)) (fun z => g q)))
    · exact nm_r (nI_1 i) (hJ T tc rc k D h1 (fun _ => by omega) hk (by omega))
    · exact nm_r (nI_1 i) (hJ T tc rc k D h1 (fun w => absurd w (by rw [z]; decide)) hk (by omega))
    · exact nm_r (nI_1 i) (hJ T tc rc k D h1 (fun w => absurd w (by rw [z]; decide)) hk (by omega))
theorem pl_189 {T L : Nat → Nat} {tc lc rc ck want c k : Nat} {xd z0 : Int32} {aS : Nat → Int32} (D : pv_dr T L ml kw hw aw tc lc rc) (hd : xd = 0) (hN : N < 2 ^ 31) (hc : ps_fc c) (hl : lc < want) (hw8 : want ≤ ml) (hk : k0 < k) (hk2 : k < 2 ^ 28)
    (hJ : ∀ (T L : Nat → Nat) (tc rc k' : Nat), pv_dr T L ml kw hw aw tc (lc + 1) rc → 1 ≤ rc → (lc + 1 = want → rc = 1) → k0 < k' → k' ≤ k + 17 → J104 (nI k') (lN (ps_pt T tc 0)) (lN (ps_pt T tc 1)) (lN (ps_pt T tc 2)) (lN (ps_pk L 8 0 (lc + 1))) (nI tc) (nI rc) (nI (lc + 1)) (nI ml) (nI kw) (nI hw) (nI aw) (nI tc) (nI (lc + 1)) (nI rc) xd xe (nI ck) (fun j => nI (T j)) (fun j => nI (L j)) aS) :
    wL_law_189 post N xs J63 J104 x1 (nI k) ev (nI want) (lN (ps_pt T tc 0)) (lN (ps_pt T tc 1)) (lN (ps_pt T tc 2)) (lN (ps_pk L 8 0 lc)) (nI tc) (nI rc) (nI lc) (nI (c / 64)) (nI (c % 64)) z0 kc ks (nI ml) (nI kw) (nI hw) (nI aw) (nI tc) (nI lc) (nI rc) xd xe (nI ck) (fun j => nI (T j)) (fun j => nI (L j)) aS := by
  obtain ⟨ok, lk, dp, a1, a2, a3, a4, hL, _⟩ := id D
  have c2 := hc.2.1
  have rl := ps_dp_lk T tc
  have D' := pv_lock D hc (by omega)
  refine nm_r (pl_3 k) (nm_r (px_cd c) (px_lock hd hc (by omega) a2 (by omega) (nm_r (pl_codes (by omega) (fun j hj => (hL j hj).2.1) c2) (pl_put3 (by omega) (pv_T D) (by omega) (nm_r (nI_1 tc) (nm_r (nI_1 rc) ?_))))))
  have e1 : nI want - 1 = nI (want - 1) := pk_sub (b := 1) (by omega)
  rw [e1]
  refine pk_eq lc (want - 1) (fun q => ?_) (fun q => ?_)
  · exact ⟨8, pl_288 (last := true) (K := k + 17) hd hN (by omega) (by omega) (fun T' tc' rc' k' d1 d2 d3 d4 d5 => hJ T' _ tc' rc' k' d1 d2 (fun _ => d3 rfl) d4 d5) 7 0 (k + 3) _ (tc + 1) (rc + 1) rfl D' (by omega) (by omega) (by omega) (by omega)⟩
  · exact ⟨8, pl_288 (last := false) (K := k + 17) hd hN (by omega) (by omega) (fun T' tc' rc' k' d1 d2 d3 d4 d5 => hJ T' _ tc' rc' k' d1 d2 (fun w => by omega) d4 d5) 7 0 (k + 3) _ (tc + 1) (rc + 1) rfl D' (by omega) (by omega) (by omega) (by omega)⟩
theorem pl_104 {ck want : Nat} {xd : Int32} {aS : Nat → Int32} (hd : xd = 0) (hN : N < 2 ^ 31) (hw1 : 1 ≤ want) (hw8 : want ≤ ml) (hck : ck < 64) (hev : ∀ n, n < 8 → bt xe n = true → bt ev n = true) (hpost : post 1)
    (hJ : ∀ (T L : Nat → Nat) (tc lc rc k : Nat) (ev xe : Int32) (ck : Nat) (S : Nat → Nat) (aS : Nat → Int32), k0 < k → k < N → ck < 64 → pv_ev S lc xe ev aS → J63 (nI k) ev (nI ml) (nI kw) (nI hw) (nI aw) (nI tc) (nI lc) (nI rc) 1 xe (nI ck) (fun j => nI (T j)) (fun j => nI (L j)) aS) :
    ∀ (d lc k : Nat) (T L : Nat → Nat) (tc rc : Nat), lc + d = want → pv_dr T L ml kw hw aw tc lc rc → (lc = want → rc = 1) → k0 < k → k + 17 * d < 2 ^ 20 →
      wL_law_104 post N xs J63 x1 ev (nI want) kc ks (d + 1) (nI k) (lN (ps_pt T tc 0)) (lN (ps_pt T tc 1)) (lN (ps_pt T tc 2)) (lN (ps_pk L 8 0 lc)) (nI tc) (nI rc) (nI lc) (nI ml) (nI kw) (nI hw) (nI aw) (nI tc) (nI lc) (nI rc) xd xe (nI ck) (fun j => nI (T j)) (fun j => nI (L j)) aS := by
  intro d
  induction d with
  | zero =>
    intro lc k T L tc rc hl D h1 hk hb
    cases (show lc = want by omega)
    obtain ⟨ok, lk, dp, a1, a2, a3, a4, hL, w⟩ := id D
    have hr := h1 rfl
    refine br_t (nI_le (Nat.le_refl _) (by omega)) (px_seal hd hr ok (by omega) a4 (by omega) hL (fun r a ha => nm_r (nI_1 k) (pl_cell hN (by omega) (fun r1 => pl_pickx 30 rfl (by decide) (by decide) (fun j hj => nm_r (e' := nI (want + 10 + j)) ?_ ?_)))))
    · have e : nI want + 10 = nI (want + 10) := nI_add want 10
      rw [e, nI_add]
    · have E : pv_ev (fun _ => 0) want xe ev a := ⟨ha, fun _ _ => by show 0 < 256; decide, hev, fun j hj n hn z => by have z' : 0 = 64 + n := z; omega⟩
      exact ⟨want + 10 + j + 3 + 1, pl_467 (T := T) (L := L) (rc := rc) (xd := 1) ⟨ok, lk, by omega, hr, a1, a2, a4, hL, w⟩ (by decide) hw1 hN (by omega) hpost (fun k' ev xe ck S aS b1 b2 b3 b4 => hJ T L tc want rc k' ev xe ck S aS b1 b2 b3 b4) (want + 10 + j + 3) 0 (k + 1) ev xe ck (fun _ => 0) a (by omega) (by omega) (by omega) hck E⟩
  | succ d ih =>
    intro lc k T L tc rc hl D h1 hk hb
    have m8 := D.2.2.2.2.1
    have n : ∀ (T L : Nat → Nat) (tc rc k' : Nat), pv_dr T L ml kw hw aw tc (lc + 1) rc → 1 ≤ rc → (lc + 1 = want → rc = 1) → k0 < k' → k' ≤ k + 17 → wL_law_104 post N xs J63 x1 ev (nI want) kc ks (d + 1) (nI k') (lN (ps_pt T tc 0)) (lN (ps_pt T tc 1)) (lN (ps_pt T tc 2)) (lN (ps_pk L 8 0 (lc + 1))) (nI tc) (nI rc) (nI (lc + 1)) (nI ml) (nI kw) (nI hw) (nI aw) (nI tc) (nI (lc + 1)) (nI rc) xd xe (nI ck) (fun j => nI (T j)) (fun j => nI (L j)) aS :=
      fun T L tc rc k' b1 b2 b3 b4 b5 => ih (lc + 1) k' T L tc rc (by omega) b1 b3 b4 (by omega)
    have g : ∀ (kd nu : Nat) (xk xn : Int32), xk = nI kd → xn = nI nu → 1 ≤ kd → kd ≤ 3 → nu < 64 → (kd < 3 → nu < 8) → wL_law_169 post N xs J63 (wL_law_104 post N xs J63 x1 ev (nI want) kc ks (d + 1)) x1 (nI k) ev (nI want) (lN (ps_pt T tc 0)) (lN (ps_pt T tc 1)) (lN (ps_pt T tc 2)) (lN (ps_pk L 8 0 lc)) (nI tc) (nI rc) (nI lc) xk xn kc ks (nI ml) (nI kw) (nI hw) (nI aw) (nI tc) (nI lc) (nI rc) xd xe (nI ck) (fun j => nI (T j)) (fun j => nI (L j)) aS := by
      intro kd nu xk xn e1 e2 b1 b2 b3 b4
      have f1 : (kd * 64 + nu) / 64 = kd := by omega
      have f2 : (kd * 64 + nu) % 64 = nu := by omega
      rw [e1, e2]
      have fc : ps_fc (kd * 64 + nu) := ⟨by omega, by omega, fun q => by rw [f2]; exact b4 (by omega)⟩
      refine pl_cellx (k + 2) (pl_2 k) hN (by omega) (fun r => br_c (fun _ => ?_) (fun _ => ?_))
      · have z := pl_189 (post := post) (xs := xs) (J63 := J63) (x1 := x1) (ev := ev) (kc := kc) (ks := ks) (ck := ck) (xe := xe) (z0 := 1) (aS := aS) D hd hN fc (show lc < want by omega) hw8 hk (by omega) n
        rw [f1, f2] at z
        exact z
      · have z := pl_189 (post := post) (xs := xs) (J63 := J63) (x1 := x1) (ev := ev) (kc := kc) (ks := ks) (ck := ck) (xe := xe) (z0 := 0) (aS := aS) D hd hN fc (show lc < want by omega) hw8 hk (by omega) n
        rw [f1, f2] at z
        exact z
    refine br_f (nI_ge (by omega) (by omega)) (pl_cell hN (by omega) (fun r1 => pl_pickx 3 rfl (by decide) (by decide) (fun j hj => nm_r (pl_a1 j) (pl_cellx (k + 1) (nI_1 k) hN (by omega) (fun r2 => pk_eq (1 + j) 3 (fun q => ?_) (fun q => br_c (fun _ => ?_) (fun _ => ?_)))))))
    · exact g (1 + j) _ _ _ rfl (pk_and r2 6 (by decide)) (by omega) (by omega) (Nat.mod_lt _ (by decide)) (fun z => by omega)
    · have m := Nat.mod_lt r2.toBitVec.toNat (show 0 < 2 ^ 1 by decide)
      exact g (1 + j) _ _ _ rfl (pk_and r2 1 (by decide)) (by omega) (by omega) (by omega) (fun z => by omega)
    · have m := Nat.mod_lt r2.toBitVec.toNat (show 0 < 2 ^ 3 by decide)
      exact g (1 + j) _ _ _ rfl (pk_and r2 3 (by decide)) (by omega) (by omega) (by omega) (fun z => by omega)
theorem pl_63 (hN : N ≤ 260) (hm2 : 2 ≤ ml) (hm : ml ≤ 8) (hwt : 1 ≤ kw ∧ kw ≤ 99 ∧ 1 ≤ hw ∧ hw ≤ 99 ∧ 1 ≤ aw ∧ aw ≤ 99) (hpost : post 1) :
    ∀ (n k : Nat) (ev xe : Int32) (T L : Nat → Nat) (tc lc rc ck : Nat) (xd : Int32) (aS : Nat → Int32), N - k < n → k ≤ 260 → ck < 64 → (∀ n, n < 8 → bt xe n = true → bt ev n = true) →
      wL_law_63 post N xs (nI ml) kc ks n (nI k) ev (nI ml) (nI kw) (nI hw) (nI aw) (nI tc) (nI lc) (nI rc) xd xe (nI ck) (fun j => nI (T j)) (fun j => nI (L j)) aS := by
  intro n
  induction n with
  | zero => intro k ev xe T L tc lc rc ck xd aS h; omega
  | succ n ih =>
    intro k ev xe T L tc lc rc ck xd aS hn hk hck hev
    refine nm_r (nI_1 k) (pl_cell (by omega) (by omega) (fun r1 => pl_pick (by omega) (by omega) (fun j hj => nm_r (pk_sub (by omega)) ⟨ml - j + 1, ?_⟩)))
    have D : pv_dr T L ml kw hw aw 0 0 0 := ⟨fun i h => absurd h (Nat.not_lt_zero i), rfl, rfl, Nat.zero_le _, hm, Nat.le_refl 0, Nat.zero_le _, fun j h => absurd h (Nat.not_lt_zero j), hwt⟩
    have g := pl_104 (post := post) (N := N) (xs := xs) (J63 := wL_law_63 post N xs (nI ml) kc ks n) (x1 := nI ml) (kc := kc) (ks := ks) (k0 := k) (xd := 0) (aS := aS) rfl (by omega) (show 1 ≤ ml - j by omega) (by omega) hck hev hpost (fun T L tc lc rc k' ev xe ck S aS b1 b2 b3 b4 => ih k' ev xe T L tc lc rc ck 1 aS (by omega) (by omega) b3 b4.2.2.1) (ml - j) 0 (k + 1) T L 0 0 (by omega) D (fun q => by omega) (by omega) (by omega)
    rw [ps_pt0, ps_pt0, ps_pt0] at g
    exact g
end
theorem i_vc (xs : Nat → Int32) (L : Nat) (hL : L ≤ 260) : wpL_law (fun r => r = 1) L xs := by
  refine pl_cellx 0 rfl (by omega) (by decide) (fun r0 => pl_pickx 7 rfl (by decide) (by decide) (fun a ha => nm_r (pl_a2 a) (pl_cellx 1 rfl (by omega) (by decide) (fun r1 => pl_pickx 9 rfl (by decide) (by decide) (fun b hb => pl_cellx 2 rfl (by omega) (by decide) (fun r2 => pl_pickx 9 rfl (by decide) (by decide) (fun c hc => pl_cellx 3 rfl (by omega) (by decide) (fun r3 => pl_pickx 9 rfl (by decide) (by decide) (fun d hd => ?_)))))))))
  refine ⟨3, 31, by omega, by omega, by omega, by omega, by omega, by omega, by omega, by omega, ?_⟩
  rw [pl_a1, pl_a1, pl_a1]
  refine px_clampok (a := 2) (b := 8) (by omega) (by omega) (by decide) (px_clampok (a := 1) (b := 99) (by omega) (by omega) (by decide) (px_clampok (a := 1) (b := 99) (by omega) (by omega) (by decide) (px_clampok (a := 1) (b := 99) (by omega) (by omega) (by decide) ⟨L + 1, ?_⟩)))
  exact pl_63 (post := fun r => r = 1) (xs := xs) (ml := 2 + a) (kw := 1 + b) (hw := 1 + c) (aw := 1 + d) hL (by omega) (by omega) ⟨by omega, by omega, by omega, by omega, by omega, by omega⟩ rfl (L + 1) 4 0 0 (fun _ => 0) (fun _ => 0) 0 0 0 0 0 (fun _ => 0) (by omega) (by decide) (by decide) (fun n hn z => by rw [b_0] at z; exact absurd z (by decide))
