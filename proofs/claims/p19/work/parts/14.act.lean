def pv_ok (T L : Nat → Nat) (ml kw hw aw tc lc rc : Nat) : Prop := ps_ok T tc ∧ ps_lk T tc = lc ∧ ps_dp T tc = 1 ∧ rc = 1 ∧ lc ≤ ml ∧ ml ≤ 8 ∧ tc ≤ 15 ∧ (∀ j, j < lc → ps_fc (L j)) ∧ 1 ≤ kw ∧ kw ≤ 99 ∧ 1 ≤ hw ∧ hw ≤ 99 ∧ 1 ≤ aw ∧ aw ≤ 99
def pv_ev (S : Nat → Nat) (lc : Nat) (xe ev : Int32) (aS : Nat → Int32) : Prop := (∀ j, j < lc → aS j = nI (S j)) ∧ (∀ j, j < lc → S j < 256) ∧ (∀ n, n < 8 → bt xe n = true → bt ev n = true) ∧ (∀ j, j < lc → ∀ n, n < 8 → S j = 64 + n → bt ev n = true)
theorem ps_ex_no {p : Nat → Bool} : ∀ m, (∀ j, j < m → p j = false) → ps_ex p m = false := by
  intro m
  induction m with
  | zero => exact fun _ => rfl
  | succ m ih =>
    intro h
    rw [ps_exF (h m (by omega))]
    exact ih (fun j hj => h j (by omega))
theorem ps_w_ge {kw hw aw : Nat} (h1 : 1 ≤ kw) (h2 : 1 ≤ hw) (h3 : 1 ≤ aw) : ∀ k, 1 ≤ ps_w kw hw aw k := by
  intro k
  unfold ps_w
  split
  · exact h1
  · split
    · exact h2
    · exact h3
theorem ps_fs_1 {L : Nat → Nat} {m j : Nat} (h : m / 2 ^ j % 2 = 1) : ps_fs L m j = L j := if_pos h
theorem ps_fs_0 {L : Nat → Nat} {m j : Nat} (h : ¬ m / 2 ^ j % 2 = 1) : ps_fs L m j = 0 := if_neg h
theorem ps_fs_fl {L : Nat → Nat} {lc m : Nat} (hL : ∀ j, j < lc → ps_fc (L j)) (hm : m < 2 ^ lc) : ps_mk (ps_fl (ps_fs L m)) lc = m := by
  rw [ps_mk_c (q := fun j => decide (m / 2 ^ j % 2 = 1)) lc (fun j hj => ?_), ps_mk_id lc hm]
  have l := (hL j hj).1
  unfold ps_fl
  by_cases b : m / 2 ^ j % 2 = 1
  · rw [ps_fs_1 b, decide_eq_true b, decide_eq_true (by omega)]
  · rw [ps_fs_0 b, decide_eq_false b, decide_eq_false (by omega)]
theorem ps_fs_sp {T L : Nat → Nat} {tc lc ck m : Nat} (hL : ∀ j, j < lc → ps_fc (L j)) (hm : m < 2 ^ lc) (ho : ∀ j, j < lc → m / 2 ^ j % 2 = 1 → L j / 64 = 3 → L j % 64 ≤ ck) (hn : ps_mn (ps_tr T tc) lc m = true) : ps_sp T L (ps_fs L m) tc lc ck = 1 := by
  have w : ps_ex (ps_wr L (ps_fs L m) ck) lc = false := by
    refine ps_ex_no lc (fun j hj => ?_)
    have l := (hL j hj).1
    by_cases b : m / 2 ^ j % 2 = 1
    · have ft : ps_ft L (ps_fs L m) ck j = true := by
        rw [ps_ft, decide_eq_true (ps_fs_1 b), Bool.true_and]
        by_cases t : L j / 64 = 3
        · rw [decide_eq_true (ho j hj b t), Bool.or_true]
        · rw [decide_eq_true t, Bool.true_or]
      rw [ps_wr, ft, Bool.not_true, Bool.and_false]
    · have fl : ps_fl (ps_fs L m) j = false := by
        unfold ps_fl
        rw [ps_fs_0 b]
        rfl
      rw [ps_wr, fl, Bool.false_and]
  have t : ps_tr T tc m = true := by
    rw [ps_mn, Bool.and_eq_true] at hn
    exact hn.1
  unfold ps_sp
  rw [ps_fs_fl hL hm, if_neg (by rw [w]; decide), if_pos t, if_pos hn]
theorem ps_hd_k {e : Int32} {n : Nat} (h : n < 8) : ps_hd e (64 + n) = bt e n := by
  unfold ps_hd
  rw [show ((64 + n) / 64 - 1) * 8 + (64 + n) % 64 = n by omega]
theorem pv_wit {L S : Nat → Nat} {lc m : Nat} {xe ev : Int32} {aS a : Nat → Int32} (E : pv_ev S lc xe ev aS) (hL : ∀ j, j < lc → ps_fc (L j)) (ha : ∀ j, j < lc → a j = nI (ps_fs L m j)) (hk : ∀ j, j < lc → m / 2 ^ j % 2 = 1 → ∀ n, n < 8 → L j = 64 + n → bt ev n = true) : pv_ev (ps_fs L m) lc xe ev a := by
  refine ⟨ha, ?_, E.2.2.1, ?_⟩
  · intro j hj
    have l := (hL j hj).2.1
    unfold ps_fs
    split <;> omega
  · intro j hj n hn e
    by_cases b : m / 2 ^ j % 2 = 1
    · rw [ps_fs_1 b] at e
      exact hk j hj b n hn e
    · rw [ps_fs_0 b] at e
      omega
theorem ps_le_bit {m f j : Nat} (h : ps_le m f) (b : m / 2 ^ j % 2 = 1) : f / 2 ^ j % 2 = 1 := by
  have q := h j
  have := ps_b2 (f / 2 ^ j)
  omega
theorem ps_mk_t {p : Nat → Bool} {n j : Nat} (hj : j < n) (b : ps_mk p n / 2 ^ j % 2 = 1) : p j = true := by
  rw [ps_mk_b n hj] at b
  by_cases z : p j = true
  · exact z
  · rw [if_neg z] at b
    omega
section
variable {post : Int32 → Prop} {N : Nat} {xs : Nat → Int32} {J63 : Int32 → Int32 → Int32 → Int32 → Int32 → Int32 → Int32 → Int32 → Int32 → Int32 → Int32 → Int32 → (Nat → Int32) → (Nat → Int32) → (Nat → Int32) → Prop} {J467 : Int32 → Int32 → Int32 → Int32 → Int32 → Int32 → Int32 → Int32 → Int32 → Int32 → Int32 → Int32 → Int32 → (Nat → Int32) → (Nat → Int32) → (Nat → Int32) → Prop} {x1 ev : Int32} {k en st kc ks : Nat}
variable {ml kw hw aw tc lc rc ck : Nat} {xd xe : Int32} {T L S : Nat → Nat} {aS : Nat → Int32}
theorem pw_906 {sat mal : Bool} {r : Int32} (V : pv_ok T L ml kw hw aw tc lc rc) (hd : ¬ xd = 0) (hck : ck < 64) (E : pv_ev S lc xe ev aS)
    (H1 : (sat = true ∨ mal = true) → ¬ r < 1 → ps_sp T L S tc lc ck = 1)
    (H2 : sat = true → (ps_tr T tc (ps_mk (ps_ow L xe ck) lc) = true → (1 : Int32) ≤ r) ∧ (ps_tr T tc (ps_mk (ps_ow L xe ck) lc) = false → r = -1)) (hJ : J467 (nI k) ev (nI (st + 1)) (nI ml) (nI kw) (nI hw) (nI aw) (nI tc) (nI lc) (nI rc) xd xe (nI ck) (fun j => nI (T j)) (fun j => nI (L j)) aS) :
    wL_law_906 post N xs J63 J467 x1 (nI k) ev (nI lc) (lN (ps_pt T tc 0)) (lN (ps_pt T tc 1)) (lN (ps_pt T tc 2)) (lN (ps_pk L 8 0 lc)) (nI tc) (nI en) (nI st) (ps_i sat) (ps_i mal) r kc ks (nI ml) (nI kw) (nI hw) (nI aw) (nI tc) (nI lc) (nI rc) xd xe (nI ck) (fun j => nI (T j)) (fun j => nI (L j)) aS := by
  obtain ⟨v1, v2, v3, v4, v5, v6, v7, v8, -⟩ := V
  obtain ⟨e1, e2, e3, e4⟩ := E
  exact pc_906 hd v1 (by omega) v3 v7 (by omega) hck v4 v8 e1 e2 e4 H1 H2 hJ
theorem pw_0 {r : Int32} (V : pv_ok T L ml kw hw aw tc lc rc) (hd : ¬ xd = 0) (hck : ck < 64) (E : pv_ev S lc xe ev aS) (hJ : J467 (nI k) ev (nI (st + 1)) (nI ml) (nI kw) (nI hw) (nI aw) (nI tc) (nI lc) (nI rc) xd xe (nI ck) (fun j => nI (T j)) (fun j => nI (L j)) aS) : wL_law_906 post N xs J63 J467 x1 (nI k) ev (nI lc) (lN (ps_pt T tc 0)) (lN (ps_pt T tc 1)) (lN (ps_pt T tc 2)) (lN (ps_pk L 8 0 lc)) (nI tc) (nI en) (nI st) 0 0 r kc ks (nI ml) (nI kw) (nI hw) (nI aw) (nI tc) (nI lc) (nI rc) xd xe (nI ck) (fun j => nI (T j)) (fun j => nI (L j)) aS :=
  pw_906 (sat := false) (mal := false) V hd hck E (fun q => by rcases q with q | q <;> exact absurd q (by decide)) (fun q => absurd q (by decide)) hJ
theorem pa_723 {t : Nat} (V : pv_ok T L ml kw hw aw tc lc rc) (hd : ¬ xd = 0) (ht : t < 64) (E : pv_ev S lc xe ev aS)
    (hJ : ∀ (ev xe : Int32) (ck : Nat) (S : Nat → Nat) (aS : Nat → Int32), ck < 64 → pv_ev S lc xe ev aS → J467 (nI k) ev (nI (st + 1)) (nI ml) (nI kw) (nI hw) (nI aw) (nI tc) (nI lc) (nI rc) xd xe (nI ck) (fun j => nI (T j)) (fun j => nI (L j)) aS) : wL_law_723 post N xs J63 J467 x1 (nI k) ev (nI lc) (lN (ps_pt T tc 0)) (lN (ps_pt T tc 1)) (lN (ps_pt T tc 2)) (lN (ps_pk L 8 0 lc)) (nI tc) (nI en) (nI st) 0 0 0 (nI t) kc ks (nI ml) (nI kw) (nI hw) (nI aw) (nI tc) (nI lc) (nI rc) xd xe (nI ck) (fun j => nI (T j)) (fun j => nI (L j)) aS :=
  px_time ht (pw_0 V hd ht E (hJ ev xe t S aS ht E))
theorem pa_780 {c : Nat} {b : Bool} (V : pv_ok T L ml kw hw aw tc lc rc) (hd : ¬ xd = 0) (hck : ck < 64) (E : pv_ev S lc xe ev aS) (c1 : 64 ≤ c) (c2 : c < 192) (c3 : c % 64 < 8)
    (hJ : ∀ (ev xe : Int32) (ck : Nat) (S : Nat → Nat) (aS : Nat → Int32), ck < 64 → pv_ev S lc xe ev aS → J467 (nI k) ev (nI (st + 1)) (nI ml) (nI kw) (nI hw) (nI aw) (nI tc) (nI lc) (nI rc) xd xe (nI ck) (fun j => nI (T j)) (fun j => nI (L j)) aS) : wL_law_780 post N xs J63 J467 x1 (nI k) ev (nI lc) (lN (ps_pt T tc 0)) (lN (ps_pt T tc 1)) (lN (ps_pt T tc 2)) (lN (ps_pk L 8 0 lc)) (nI tc) (nI en) (nI st) (nI (c / 64)) (nI (c % 64)) (ps_i b) 0 0 0 kc ks (nI ml) (nI kw) (nI hw) (nI aw) (nI tc) (nI lc) (nI rc) xd xe (nI ck) (fun j => nI (T j)) (fun j => nI (L j)) aS := by
  obtain ⟨e1, e2, e3, e4⟩ := E
  refine px_hold c1 c2 c3 (fun r e' h1 h2 => ?_)
  have old : ∀ n, n < 8 → ¬ 64 + n = c → bt e' n = true → bt ev n = true := by
    intro n hn ne q
    rw [← ps_hd_k hn, h2 (64 + n) (by omega) (by omega) (by omega) ne, ps_hd_k hn] at q
    exact e3 n hn q
  refine pk_eq (c / 64) 1 (fun q => ?_) (fun q => ?_)
  · have hc : c = 64 + c % 64 := by omega
    by_cases hb : b = true
    · refine br_f (by rw [hb]; decide) (nm_e ?_)
      have or1 : ∀ n, n < 8 → bt ev n = true → bt (ev ||| ((1 : Int32) <<< (nI (c % 64) &&& 31))) n = true := by
        intro n hn z
        rw [b_or, z, Bool.true_or]
      have or2 : bt (ev ||| ((1 : Int32) <<< (nI (c % 64) &&& 31))) (c % 64) = true := by
        rw [b_or, ps_1sh _ (by omega) _ (by omega), decide_eq_true rfl, Bool.or_true]
      have E' : pv_ev S lc e' (ev ||| ((1 : Int32) <<< (nI (c % 64) &&& 31))) aS := by
        refine ⟨e1, e2, ?_, fun j hj n hn z => or1 n hn (e4 j hj n hn z)⟩
        intro n hn z
        by_cases w : n = c % 64
        · rw [w]
          exact or2
        · exact or1 n hn (old n hn (by omega) z)
      exact pw_0 V hd hck E' (hJ _ _ _ _ _ hck E')
    · have hb' := ps_nf hb
      refine br_t (by rw [hb']; rfl) ?_
      have E' : pv_ev S lc e' ev aS := by
        refine ⟨e1, e2, ?_, e4⟩
        intro n hn z
        by_cases w : 64 + n = c
        · rw [← ps_hd_k hn, w, h1, hb'] at z
          exact absurd z (by decide)
        · exact old n hn w z
      exact pw_0 V hd hck E' (hJ _ _ _ _ _ hck E')
  · have E' : pv_ev S lc e' ev aS := ⟨e1, e2, fun n hn z => old n hn (by omega) z, e4⟩
    exact pw_0 V hd hck E' (hJ _ _ _ _ _ hck E')
theorem pa_743 {i : Nat} {x18 x20 x21 : Int32} {b : Bool} (V : pv_ok T L ml kw hw aw tc lc rc) (hd : ¬ xd = 0) (hck : ck < 64) (E : pv_ev S lc xe ev aS) (hi : i < lc) (hk : ¬ x18 = 15 → ¬ L i / 64 = 3)
    (hJ : ∀ (ev xe : Int32) (ck : Nat) (S : Nat → Nat) (aS : Nat → Int32), ck < 64 → pv_ev S lc xe ev aS → J467 (nI k) ev (nI (st + 1)) (nI ml) (nI kw) (nI hw) (nI aw) (nI tc) (nI lc) (nI rc) xd xe (nI ck) (fun j => nI (T j)) (fun j => nI (L j)) aS) : wL_law_743 post N xs J63 J467 x1 (nI k) ev (nI lc) (lN (ps_pt T tc 0)) (lN (ps_pt T tc 1)) (lN (ps_pt T tc 2)) (lN (ps_pk L 8 0 lc)) (nI tc) (nI en) (nI st) x18 x20 x21 (nI (L i / 64)) (nI (L i % 64)) (ps_i b) 0 0 0 kc ks (nI ml) (nI kw) (nI hw) (nI aw) (nI tc) (nI lc) (nI rc) xd xe (nI ck) (fun j => nI (T j)) (fun j => nI (L j)) aS := by
  by_cases h : x18 = 15
  · refine br_t h ?_
    obtain ⟨u, hu, eu⟩ : ∃ u, u < 2 ∧ x20 &&& 1 = nI u := ⟨_, Nat.mod_lt _ (by decide), pk_and x20 1 (by decide)⟩
    obtain ⟨n, hn, en⟩ : ∃ n, n < 8 ∧ x21 &&& 7 = nI n := ⟨_, Nat.mod_lt _ (by decide), pk_and x21 3 (by decide)⟩
    have k1 : 1 + (x20 &&& 1) = nI (((1 + u) * 64 + n) / 64) := by
      have e : 1 + nI u = nI (1 + u) := nI_add 1 u
      rw [eu, e, show ((1 + u) * 64 + n) / 64 = 1 + u by omega]
    have n1 : x21 &&& 7 = nI (((1 + u) * 64 + n) % 64) := by rw [en, show ((1 + u) * 64 + n) % 64 = n by omega]
    refine nm_r k1 (nm_r n1 (br_c (fun _ => ?_) (fun _ => ?_)))
    · exact pa_780 (b := true) V hd hck E (by omega) (by omega) (by omega) hJ
    · exact pa_780 (b := false) V hd hck E (by omega) (by omega) (by omega) hJ
  · have f := V.2.2.2.2.2.2.2.1 i hi
    obtain ⟨l1, l2, l3⟩ := f
    have := hk h
    exact br_f h (pa_780 V hd hck E l1 (by omega) (l3 (by omega)) hJ)
theorem pv_put {i c : Nat} (E : pv_ev S lc xe ev aS) (hc : c < 256) (hk : ∀ n, n < 8 → c = 64 + n → bt ev n = true) : pv_ev (ps_up S i c) lc xe ev (upd aS i (nI c)) := by
  obtain ⟨e1, e2, e3, e4⟩ := E
  refine ⟨?_, ?_, e3, ?_⟩
  · intro j hj
    by_cases e : j = i
    · rw [e, pk_us, ps_up_s]
    · rw [pk_un e, ps_up_n e]
      exact e1 j hj
  · intro j hj
    by_cases e : j = i
    · rw [e, ps_up_s]
      exact hc
    · rw [ps_up_n e]
      exact e2 j hj
  · intro j hj n hn
    by_cases e : j = i
    · rw [e, ps_up_s]
      exact hk n hn
    · rw [ps_up_n e]
      exact e4 j hj n hn
theorem pa_place {i c : Nat} (V : pv_ok T L ml kw hw aw tc lc rc) (hd : ¬ xd = 0) (hck : ck < 64) (E : pv_ev S lc xe ev aS) (hi : i < lc) (hc : ps_fc c) {P : Int32 → St2 → Prop}
    (hP : ∀ (r : Int32) (S : Nat → Nat) (aS : Nat → Int32), pv_ev S lc xe ev aS → P r (nI ml, nI kw, nI hw, nI aw, nI tc, nI lc, nI rc, xd, xe, nI ck, (fun j => nI (T j)), (fun j => nI (L j)), aS)) : wpX_place P (nI ml, nI kw, nI hw, nI aw, nI tc, nI lc, nI rc, xd, xe, nI ck, (fun j => nI (T j)), (fun j => nI (L j)), aS) (nI i) (nI (c / 64)) (nI (c % 64)) := by
  have f := V.2.2.2.2.2.2.2.1 i hi
  have h8 : lc ≤ 8 := Nat.le_trans V.2.2.2.2.1 V.2.2.2.2.2.1
  refine px_place hd hi h8 hck hc f (hP _ S aS E) (fun q r => hP r (ps_up S i c) _ (pv_put E hc.2.1 (fun n hn e => ?_)))
  have z := q (by omega)
  rw [e, ps_hd_k hn] at z
  exact E.2.2.1 n hn z
theorem pa_730 {x i : Nat} {x20 x21 : Int32} {b : Bool} (V : pv_ok T L ml kw hw aw tc lc rc) (hd : ¬ xd = 0) (hck : ck < 64) (E : pv_ev S lc xe ev aS) (hi : i < lc) (hx : x < 16) (hk : x < 5 → ¬ L i / 64 = 3)
    (hJ : ∀ (ev xe : Int32) (ck : Nat) (S : Nat → Nat) (aS : Nat → Int32), ck < 64 → pv_ev S lc xe ev aS → J467 (nI k) ev (nI (st + 1)) (nI ml) (nI kw) (nI hw) (nI aw) (nI tc) (nI lc) (nI rc) xd xe (nI ck) (fun j => nI (T j)) (fun j => nI (L j)) aS) : wL_law_730 post N xs J63 J467 x1 (nI k) ev (nI lc) (lN (ps_pt T tc 0)) (lN (ps_pt T tc 1)) (lN (ps_pt T tc 2)) (lN (ps_pk L 8 0 lc)) (nI tc) (nI en) (nI st) (nI x) (nI i) x20 x21 (nI (L i / 64)) (nI (L i % 64)) (ps_i b) 0 0 0 kc ks (nI ml) (nI kw) (nI hw) (nI aw) (nI tc) (nI lc) (nI rc) xd xe (nI ck) (fun j => nI (T j)) (fun j => nI (L j)) aS := by
  have f := V.2.2.2.2.2.2.2.1
  have h8 : lc ≤ 8 := Nat.le_trans V.2.2.2.2.1 V.2.2.2.2.2.1
  have fin : ∀ (S : Nat → Nat) (aS : Nat → Int32), pv_ev S lc xe ev aS → wL_law_906 post N xs J63 J467 x1 (nI k) ev (nI lc) (lN (ps_pt T tc 0)) (lN (ps_pt T tc 1)) (lN (ps_pt T tc 2)) (lN (ps_pk L 8 0 lc)) (nI tc) (nI en) (nI st) 0 0 0 kc ks (nI ml) (nI kw) (nI hw) (nI aw) (nI tc) (nI lc) (nI rc) xd xe (nI ck) (fun j => nI (T j)) (fun j => nI (L j)) aS := fun S aS E => pw_0 V hd hck E (hJ _ _ _ _ _ hck E)
  refine pk_lt x 5 (fun q => ?_) (fun q => pk_eq x 15 (fun q2 => ?_) (fun q2 => pk_eq x 5 (fun q3 => ?_) (fun q3 => pk_le 14 x (fun q4 => br_c (fun _ => ?_) (fun _ => ?_)) (fun q4 => ?_))))
  · exact pa_743 V hd hck E hi (fun _ => hk q) hJ
  · exact pa_743 V hd hck E hi (fun z => absurd (by rw [q2]; rfl) z) hJ
  · have e : x21 &&& 63 = nI (x21.toBitVec.toNat % 2 ^ 6) := pk_and x21 6 (by decide)
    have m : x21.toBitVec.toNat % 2 ^ 6 < 64 := Nat.mod_lt _ (by decide)
    rw [e]
    exact px_time m (pw_0 V hd m E (hJ ev xe _ S aS m E))
  · exact px_place0 hd hi h8 (fin _ _ (pv_put E (by decide) (fun n hn z => by omega)))
  · refine pl_pick (by omega) (by omega) (fun j hj => pl_code h8 hj (fun i hi => (f i hi).2.1) ?_)
    have l2 := (f j hj).2.1
    rw [pl_shr6 (by omega), pl_and63]
    exact pa_place V hd hck E hi (f j hj) (fun r S aS E => fin S aS E)
  · exact pa_place V hd hck E hi (f i hi) (fun r S aS E => fin S aS E)
theorem pa_sat {z0 : Int32} {mal : Bool} (V : pv_ok T L ml kw hw aw tc lc rc) (hd : ¬ xd = 0) (hck : ck < 64) (E : pv_ev S lc xe ev aS)
    (hJ : ∀ (ev xe : Int32) (ck : Nat) (S : Nat → Nat) (aS : Nat → Int32), ck < 64 → pv_ev S lc xe ev aS → J467 (nI k) ev (nI (st + 1)) (nI ml) (nI kw) (nI hw) (nI aw) (nI tc) (nI lc) (nI rc) xd xe (nI ck) (fun j => nI (T j)) (fun j => nI (L j)) aS) {P : Int32 → St2 → Prop}
    (hP : ∀ (r : Int32) (aS : Nat → Int32), wL_law_906 post N xs J63 J467 x1 (nI k) ev (nI lc) (lN (ps_pt T tc 0)) (lN (ps_pt T tc 1)) (lN (ps_pt T tc 2)) (lN (ps_pk L 8 0 lc)) (nI tc) (nI en) (nI st) (ps_i true) (ps_i mal) r kc ks (nI ml) (nI kw) (nI hw) (nI aw) (nI tc) (nI lc) (nI rc) xd xe (nI ck) (fun j => nI (T j)) (fun j => nI (L j)) aS → P r (nI ml, nI kw, nI hw, nI aw, nI tc, nI lc, nI rc, xd, xe, nI ck, (fun j => nI (T j)), (fun j => nI (L j)), aS)) : wpX_satisfy P (nI ml, nI kw, nI hw, nI aw, nI tc, nI lc, nI rc, xd, xe, nI ck, (fun j => nI (T j)), (fun j => nI (L j)), aS) := by
  obtain ⟨v1, v2, v3, v4, v5, v6, v7, v8, w1, w2, w3, w4, w5, w6⟩ := id V
  have hl8 : lc ≤ 8 := by omega
  have h8 := ps_p8 hl8
  have fl := ps_mk_lt (ps_ow L xe ck) lc
  have mi := ps_bs_min (fun s => ps_sb s (ps_mk (ps_ow L xe ck) lc) && ps_tr T tc s) (fun s => ps_wt (ps_w kw hw aw) L s lc) (2 ^ lc)
  have bi := ps_bs_in (fun s => ps_sb s (ps_mk (ps_ow L xe ck) lc) && ps_tr T tc s) (fun s => ps_wt (ps_w kw hw aw) L s lc) (2 ^ lc)
  have bm := ps_best_min (T := T) (L := L) (tc := tc) hl8 fl (ps_w_ge w1 w3 w5)
  generalize em : ps_bs (fun s => ps_sb s (ps_mk (ps_ow L xe ck) lc) && ps_tr T tc s) (fun s => ps_wt (ps_w kw hw aw) L s lc) (2 ^ lc) = m at *
  refine px_satisfy hd v1 (by omega) v7 hl8 hck v8 w2 w4 w6 em (by omega) (fun z => hP _ _ ?_) (fun z a ha => hP _ _ ?_)
  · refine pw_906 V hd hck E (fun _ q => absurd (show (-1 : Int32) < 1 by decide) q) (fun _ => ⟨fun q => ?_, fun _ => rfl⟩) (hJ _ _ _ _ _ hck E)
    exfalso
    have f0 : 0 < ps_mk (ps_ow L xe ck) lc := by
      refine Nat.pos_of_ne_zero fun q0 => ?_
      rw [q0, ps_tr0] at q
      exact absurd q (by decide)
    exact (mi _ f0 fl (by rw [ps_le_sb (fun _ => Nat.le_refl _), q]; rfl)).1 z
  · obtain ⟨b1, b2⟩ : m < 2 ^ lc ∧ (ps_sb m (ps_mk (ps_ow L xe ck) lc) && ps_tr T tc m) = true := by
      rcases bi with q | q
      · exact absurd q z
      · exact q
    rw [Bool.and_eq_true] at b2
    have le := ps_sb_le (by omega) (by omega) b2.1
    have ow : ∀ j, j < lc → m / 2 ^ j % 2 = 1 → ps_ow L xe ck j = true := fun j hj b => ps_mk_t hj (ps_le_bit le b)
    have wp : 1 ≤ ps_wt (ps_w kw hw aw) L m lc := ps_wt_pos (ps_w_ge w1 w3 w5) lc (ps_some lc b1 z)
    have wl := ps_wt_le (L := L) (s := m) (ps_w_le w2 w4 w6) lc
    have E' : pv_ev (ps_fs L m) lc xe ev a := by
      refine pv_wit E v8 ha (fun j hj b n hn e => ?_)
      have o := ow j hj b
      rw [ps_ow, if_neg (by omega), e, ps_hd_k hn] at o
      exact E.2.2.1 n hn o
    refine pw_906 V hd hck E' (fun _ _ => ?_) (fun _ => ⟨fun _ => nI_le (a := 1) wp (by omega), fun q => ?_⟩) (hJ _ _ _ _ _ hck E')
    · refine ps_fs_sp v8 b1 (fun j hj b t => ?_) (bm z)
      have o := ow j hj b
      rw [ps_ow, if_pos t] at o
      exact of_decide_eq_true o
    · rw [ps_tr_mono v1 v3 le b2.2] at q
      exact absurd q (by decide)
theorem pa_mal (V : pv_ok T L ml kw hw aw tc lc rc) (hd : ¬ xd = 0) (hck : ck < 64) (E : pv_ev S lc xe ev aS)
    (hJ : ∀ (ev xe : Int32) (ck : Nat) (S : Nat → Nat) (aS : Nat → Int32), ck < 64 → pv_ev S lc xe ev aS → J467 (nI k) ev (nI (st + 1)) (nI ml) (nI kw) (nI hw) (nI aw) (nI tc) (nI lc) (nI rc) xd xe (nI ck) (fun j => nI (T j)) (fun j => nI (L j)) aS) {P : Int32 → St2 → Prop}
    (hP : ∀ (r : Int32) (aS : Nat → Int32), wL_law_906 post N xs J63 J467 x1 (nI k) ev (nI lc) (lN (ps_pt T tc 0)) (lN (ps_pt T tc 1)) (lN (ps_pt T tc 2)) (lN (ps_pk L 8 0 lc)) (nI tc) (nI en) (nI st) (ps_i false) (ps_i true) r kc ks (nI ml) (nI kw) (nI hw) (nI aw) (nI tc) (nI lc) (nI rc) xd xe (nI ck) (fun j => nI (T j)) (fun j => nI (L j)) aS → P r (nI ml, nI kw, nI hw, nI aw, nI tc, nI lc, nI rc, xd, xe, nI ck, (fun j => nI (T j)), (fun j => nI (L j)), aS)) : wpX_malleate P (nI ml, nI kw, nI hw, nI aw, nI tc, nI lc, nI rc, xd, xe, nI ck, (fun j => nI (T j)), (fun j => nI (L j)), aS) := by
  obtain ⟨v1, v2, v3, v4, v5, v6, v7, v8, w1, w2, w3, w4, w5, w6⟩ := id V
  have hl8 : lc ≤ 8 := by omega
  have h8 := ps_p8 hl8
  have fl := ps_mk_lt (ps_on L S ck lc) lc
  have bi := ps_bs_in (ps_gm T tc lc (ps_mk (ps_on L S ck lc) lc) (ps_mk (ps_fl S) lc)) (fun s => ps_wt (ps_w kw hw aw) L s lc) (2 ^ lc)
  generalize em : ps_bs (ps_gm T tc lc (ps_mk (ps_on L S ck lc) lc) (ps_mk (ps_fl S) lc)) (fun s => ps_wt (ps_w kw hw aw) L s lc) (2 ^ lc) = m at *
  refine px_malleate (S := S) hd v1 (by omega) v7 hl8 hck E.1 E.2.1 v8 w2 w4 w6 em (by omega) (fun z => hP _ _ ?_) (fun z a ha => hP _ _ ?_)
  · exact pw_906 V hd hck E (fun _ q => absurd (show (-1 : Int32) < 1 by decide) q) (fun q => absurd q (by decide)) (hJ _ _ _ _ _ hck E)
  · obtain ⟨b1, b2⟩ : m < 2 ^ lc ∧ ps_gm T tc lc (ps_mk (ps_on L S ck lc) lc) (ps_mk (ps_fl S) lc) m = true := by
      rcases bi with q | q
      · exact absurd q z
      · exact q
    rw [ps_gm, Bool.and_eq_true, Bool.and_eq_true] at b2
    have le := ps_sb_le (by omega) (by omega) b2.2.1
    have on : ∀ j, j < lc → m / 2 ^ j % 2 = 1 → ps_on L S ck lc j = true := fun j hj b => ps_mk_t hj (ps_le_bit le b)
    have E' : pv_ev (ps_fs L m) lc xe ev a := by
      refine pv_wit E v8 ha (fun j hj b n hn e => ?_)
      have o := on j hj b
      rw [ps_on, if_pos (by omega)] at o
      have ex : ∃ q, q < lc ∧ S q = L j := by
        refine Classical.byContradiction fun ne => ?_
        rw [ps_ex_no (p := ps_in S (L j)) lc (fun q hq => decide_eq_false (fun w => ne ⟨q, hq, w⟩))] at o
        exact absurd o (by decide)
      obtain ⟨q, hq, w⟩ := ex
      exact E.2.2.2 q hq n hn (w.trans e)
    refine pw_906 V hd hck E' (fun _ _ => ?_) (fun q => absurd q (by decide)) (hJ _ _ _ _ _ hck E')
    refine ps_fs_sp v8 b1 (fun j hj b t => ?_) b2.2.2
    have o := on j hj b
    rw [ps_on, if_neg (by omega), if_neg (by omega)] at o
    exact of_decide_eq_true o
theorem pa_658 {x i : Nat} {x20 x21 : Int32} {b sat mal : Bool} (V : pv_ok T L ml kw hw aw tc lc rc) (hd : ¬ xd = 0) (hck : ck < 64) (E : pv_ev S lc xe ev aS) (hi : i < lc) (hx : x < 16)
    (hJ : ∀ (ev xe : Int32) (ck : Nat) (S : Nat → Nat) (aS : Nat → Int32), ck < 64 → pv_ev S lc xe ev aS → J467 (nI k) ev (nI (st + 1)) (nI ml) (nI kw) (nI hw) (nI aw) (nI tc) (nI lc) (nI rc) xd xe (nI ck) (fun j => nI (T j)) (fun j => nI (L j)) aS) : wL_law_658 post N xs J63 J467 x1 (nI k) ev (nI lc) (lN (ps_pt T tc 0)) (lN (ps_pt T tc 1)) (lN (ps_pt T tc 2)) (lN (ps_pk L 8 0 lc)) (nI tc) (nI en) (nI st) (nI x) (nI i) x20 x21 (nI (L i / 64)) (nI (L i % 64)) (ps_i b) (ps_i sat) (ps_i mal) kc ks (nI ml) (nI kw) (nI hw) (nI aw) (nI tc) (nI lc) (nI rc) xd xe (nI ck) (fun j => nI (T j)) (fun j => nI (L j)) aS := by
  have f := V.2.2.2.2.2.2.2.1 i hi
  have l2 := f.2.1
  cases sat with
  | true =>
    refine br_f (by decide) ?_
    exact pa_sat (z0 := 0) V hd hck E hJ (fun r aS h => h)
  | false =>
    refine br_t rfl ?_
    cases mal with
    | true =>
      refine br_f (by decide) ?_
      exact pa_mal V hd hck E hJ (fun r aS h => h)
    | false =>
      refine br_t rfl (pk_le 5 x (fun q => ?_) (fun q => pk_eq (L i / 64) 3 (fun q2 => ?_) (fun q2 => ?_)))
      · exact pa_730 V hd hck E hi hx (fun z => by omega) hJ
      · refine br_c (fun _ => pk_eq (L i % 64) 0 (fun q3 => ?_) (fun q3 => ?_)) (fun _ => ?_)
        · exact pa_723 V hd (Nat.mod_lt _ (by decide)) E hJ
        · have e : nI (L i % 64) - 1 = nI (L i % 64 - 1) := pk_sub (b := 1) (by omega)
          rw [e]
          exact pa_723 V hd (by omega) E hJ
        · exact pa_723 V hd (Nat.mod_lt _ (by decide)) E hJ
      · exact pa_730 V hd hck E hi hx (fun _ => q2) hJ
theorem pa_637 {x i : Nat} {x20 x21 : Int32} {b sat : Bool} (V : pv_ok T L ml kw hw aw tc lc rc) (hd : ¬ xd = 0) (hck : ck < 64) (E : pv_ev S lc xe ev aS) (hi : i < lc) (hx : x < 16)
    (hJ : ∀ (ev xe : Int32) (ck : Nat) (S : Nat → Nat) (aS : Nat → Int32), ck < 64 → pv_ev S lc xe ev aS → J467 (nI k) ev (nI (st + 1)) (nI ml) (nI kw) (nI hw) (nI aw) (nI tc) (nI lc) (nI rc) xd xe (nI ck) (fun j => nI (T j)) (fun j => nI (L j)) aS) : wL_law_637 post N xs J63 J467 x1 (nI k) ev (nI lc) (lN (ps_pt T tc 0)) (lN (ps_pt T tc 1)) (lN (ps_pt T tc 2)) (lN (ps_pk L 8 0 lc)) (nI tc) (nI en) (nI st) (nI x) (nI i) x20 x21 (nI (L i / 64)) (nI (L i % 64)) (ps_i b) (ps_i sat) kc ks (nI ml) (nI kw) (nI hw) (nI aw) (nI tc) (nI lc) (nI rc) xd xe (nI ck) (fun j => nI (T j)) (fun j => nI (L j)) aS :=
  br_c (fun _ => pa_658 (mal := true) V hd hck E hi hx hJ) (fun _ => br_c (fun _ => pa_658 (mal := true) V hd hck E hi hx hJ) (fun _ => pa_658 (mal := false) V hd hck E hi hx hJ))
theorem pa_616 {x i : Nat} {x20 x21 : Int32} {b : Bool} (V : pv_ok T L ml kw hw aw tc lc rc) (hd : ¬ xd = 0) (hck : ck < 64) (E : pv_ev S lc xe ev aS) (hi : i < lc) (hx : x < 16)
    (hJ : ∀ (ev xe : Int32) (ck : Nat) (S : Nat → Nat) (aS : Nat → Int32), ck < 64 → pv_ev S lc xe ev aS → J467 (nI k) ev (nI (st + 1)) (nI ml) (nI kw) (nI hw) (nI aw) (nI tc) (nI lc) (nI rc) xd xe (nI ck) (fun j => nI (T j)) (fun j => nI (L j)) aS) : wL_law_616 post N xs J63 J467 x1 (nI k) ev (nI lc) (lN (ps_pt T tc 0)) (lN (ps_pt T tc 1)) (lN (ps_pt T tc 2)) (lN (ps_pk L 8 0 lc)) (nI tc) (nI en) (nI st) (nI x) (nI i) x20 x21 (nI (L i / 64)) (nI (L i % 64)) (ps_i b) kc ks (nI ml) (nI kw) (nI hw) (nI aw) (nI tc) (nI lc) (nI rc) xd xe (nI ck) (fun j => nI (T j)) (fun j => nI (L j)) aS :=
  br_c (fun _ => pa_637 (sat := false) V hd hck E hi hx hJ) (fun _ => br_c (fun _ => pa_637 (sat := false) V hd hck E hi hx hJ) (fun _ => pa_637 (sat := true) V hd hck E hi hx hJ))
theorem pa_580 {x i : Nat} {x20 x21 : Int32} (V : pv_ok T L ml kw hw aw tc lc rc) (hd : ¬ xd = 0) (hck : ck < 64) (E : pv_ev S lc xe ev aS) (hi : i < lc) (hx : x < 16)
    (hJ : ∀ (ev xe : Int32) (ck : Nat) (S : Nat → Nat) (aS : Nat → Int32), ck < 64 → pv_ev S lc xe ev aS → J467 (nI k) ev (nI (st + 1)) (nI ml) (nI kw) (nI hw) (nI aw) (nI tc) (nI lc) (nI rc) xd xe (nI ck) (fun j => nI (T j)) (fun j => nI (L j)) aS) : wL_law_580 post N xs J63 J467 x1 (nI k) ev (nI lc) (lN (ps_pt T tc 0)) (lN (ps_pt T tc 1)) (lN (ps_pt T tc 2)) (lN (ps_pk L 8 0 lc)) (nI tc) (nI en) (nI st) (nI x) (nI i) x20 x21 kc ks (nI ml) (nI kw) (nI hw) (nI aw) (nI tc) (nI lc) (nI rc) xd xe (nI ck) (fun j => nI (T j)) (fun j => nI (L j)) aS := by
  have f := V.2.2.2.2.2.2.2.1
  have h8 : lc ≤ 8 := Nat.le_trans V.2.2.2.2.1 V.2.2.2.2.2.1
  have l2 := (f i hi).2.1
  refine pl_code h8 hi (fun i hi => (f i hi).2.1) (nm_r (pl_shr6 (by omega)) (nm_r (pl_and63 _) (br_c (fun _ => ?_) (fun _ => ?_))))
  · exact pa_616 (b := false) V hd hck E hi hx hJ
  · exact pa_616 (b := true) V hd hck E hi hx hJ
end
