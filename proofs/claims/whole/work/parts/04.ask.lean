/-! What the asking calls count, find and gather. p: the marks; Q: the marks of the good orders that a set stands together in. -/

theorem rg_xgw (w f : Int32) (a g s : Nat → Int32) (p Q : Nat → Bool) (hg : ∀ n, n < 720 → g n = rg_B (p n)) (hQ : ∀ n, n < 720 → Q n = (p n && rg_st (a n) w))
    (post : Int32 → Prop) (hp : post (nI (rg_cnt Q 720))) :
    ∀ d j : Nat, j + d = 720 → wX_goodOrdersWith_4 post w f a g s (d + 1) (nI (rg_cnt Q j)) (nI j) := by
  intro d
  induction d with
  | zero =>
    intro j hj
    have e : j = 720 := by omega
    subst e
    exact br_t rg_y720 hp
  | succ d ih =>
    intro j hj
    have hl : j < 720 := by omega
    have ih' := ih (j + 1) (by omega)
    have hq := hQ j hl
    refine br_f (rg_n720 hl) ⟨rg_in hl, ?_⟩
    rw [rg_cl hl, hg j hl]
    cases hpj : p j with
    | false =>
      rw [hpj, Bool.false_and] at hq
      rw [rg_cnt_f hq] at ih'
      exact br_t rfl (nm_r (nI_1 j) ih')
    | true =>
      refine br_f (by decide) ⟨rg_in hl, rg_xst (a j) w _ ?_⟩
      cases hs : rg_st (a j) w with
      | false =>
        rw [hpj, hs, Bool.true_and] at hq
        rw [rg_cnt_f hq] at ih'
        exact br_t rfl (nm_r (nI_1 j) ih')
      | true =>
        rw [hpj, hs, Bool.true_and] at hq
        exact br_f (by decide) (nm_r (rg_cnt_t hq) (nm_r (nI_1 j) ih'))

theorem rg_xgww {w f : Int32} {a g s : Nat → Int32} {p : Nat → Bool} (Q : Nat → Bool) (hg : ∀ n, n < 720 → g n = rg_B (p n)) (hQ : ∀ n, n < 720 → Q n = (p n && rg_st (a n) w))
    (post : Int32 → Prop) (hp : post (nI (rg_cnt Q 720))) : wpX_goodOrdersWith post (f, a, g, s) w :=
  ⟨721, rg_xgw w f a g s p Q hg hQ post hp 720 0 rfl⟩

theorem rg_ycf (w : Int32) {c : Nat} (hc : c ≤ 8) (a s : Nat → Int32) (Q : Nat → Bool) (hQ : ∀ n, n < 720 → Q n = (rg_gd s (a n) c && rg_st (a n) w))
    (post : Int32 → Prop) (hp : post (nI (rg_cnt Q 720))) :
    ∀ d j : Nat, j + d = 720 → wY_countFor_4 post w (nI c) a s (d + 1) (nI (rg_cnt Q j)) (nI j) := by
  intro d
  induction d with
  | zero =>
    intro j hj
    have e : j = 720 := by omega
    subst e
    exact br_t rg_y720 hp
  | succ d ih =>
    intro j hj
    have hl : j < 720 := by omega
    have ih' := ih (j + 1) (by omega)
    have hq := hQ j hl
    refine br_f (rg_n720 hl) (rg_ystw hl w _ ?_)
    cases hs : rg_st (a j) w with
    | false =>
      rw [hs, Bool.and_false] at hq
      rw [rg_cnt_f hq] at ih'
      exact br_t rfl (nm_r (nI_1 j) ih')
    | true =>
      rw [hs, Bool.and_true] at hq
      refine br_f (by decide) (rg_ygoodw hl hc _ ?_)
      cases hd : rg_gd s (a j) c with
      | false =>
        rw [hd] at hq
        rw [rg_cnt_f hq] at ih'
        exact br_t rfl (nm_r (nI_1 j) ih')
      | true =>
        rw [hd] at hq
        exact br_f (by decide) (nm_r (rg_cnt_t hq) (nm_r (nI_1 j) ih'))

theorem rg_ycfw {w : Int32} {c : Nat} (hc : c ≤ 8) {a s : Nat → Int32} (Q : Nat → Bool) (hQ : ∀ n, n < 720 → Q n = (rg_gd s (a n) c && rg_st (a n) w))
    (post : Int32 → Prop) (hp : post (nI (rg_cnt Q 720))) : wpY_countFor post (nI c, a, s) w :=
  ⟨721, rg_ycf w hc a s Q hQ post hp 720 0 rfl⟩

theorem rg_xall (w f : Int32) (a g s : Nat → Int32) (p : Nat → Bool) (R : Bool) (hg : ∀ n, n < 720 → g n = rg_B (p n)) (hR : R = true ↔ ∀ n, n < 720 → p n = true → rg_st (a n) w = true)
    (post : Int32 → Prop) (hp : post (rg_B R)) :
    ∀ d j : Nat, j + d = 720 → (∀ n, n < j → p n = true → rg_st (a n) w = true) → wX_inAllGoodOrders_2 post w f a g s (d + 1) (nI j) := by
  intro d
  induction d with
  | zero =>
    intro j hj hb
    have e : j = 720 := by omega
    subst e
    rw [hR.mpr hb] at hp
    exact br_t rg_y720 hp
  | succ d ih =>
    intro j hj hb
    have hl : j < 720 := by omega
    refine br_f (rg_n720 hl) ⟨rg_in hl, ?_⟩
    rw [rg_cl hl, hg j hl]
    cases hpj : p j with
    | false =>
      have ih' := ih (j + 1) (by omega) (lt_s hb (fun z => by rw [hpj] at z; exact absurd z (by decide)))
      exact br_t rfl (nm_r (nI_1 j) ih')
    | true =>
      refine br_f (by decide) ⟨rg_in hl, rg_xst (a j) w _ ?_⟩
      cases hs : rg_st (a j) w with
      | false =>
        have hRf : R = false := by
          cases hRR : R with
          | false => rfl
          | true =>
            have z := hR.mp hRR j hl hpj
            rw [hs] at z
            exact absurd z (by decide)
        rw [hRf] at hp
        exact br_t rfl hp
      | true =>
        have ih' := ih (j + 1) (by omega) (lt_s hb (fun _ => hs))
        exact br_f (by decide) (nm_r (nI_1 j) ih')

theorem rg_xallw {w f : Int32} {a g s : Nat → Int32} {p : Nat → Bool} (R : Bool) (hg : ∀ n, n < 720 → g n = rg_B (p n)) (hR : R = true ↔ ∀ n, n < 720 → p n = true → rg_st (a n) w = true)
    (post : Int32 → Prop) (hp : post (rg_B R)) : wpX_inAllGoodOrders post (f, a, g, s) w :=
  ⟨721, rg_xall w f a g s p R hg hR post hp 720 0 rfl (fun n h => absurd h (Nat.not_lt_zero n))⟩

/-- the first good order, at m -/
theorem rg_xfirst (i f : Int32) (a g s : Nat → Int32) (p : Nat → Bool) (hg : ∀ n, n < 720 → g n = rg_B (p n)) {m : Nat} (hm : m < 720) (hpm : p m = true) (hlo : ∀ n, n < m → p n = false)
    (post : Int32 → Prop) (hp : post (rg_at (a m) i)) :
    ∀ d j : Nat, j + d = m → wX_first_11 post i f a g s (d + 1) (nI j) := by
  intro d
  induction d with
  | zero =>
    intro j hj
    have e : j = m := by omega
    subst e
    refine br_f (rg_n720 hm) ⟨rg_in hm, ?_⟩
    rw [rg_cl hm, hg j hm, hpm]
    exact br_f (by decide) ⟨rg_in hm, hp⟩
  | succ d ih =>
    intro j hj
    have hl : j < 720 := by omega
    have ih' := ih (j + 1) (by omega)
    refine br_f (rg_n720 hl) ⟨rg_in hl, ?_⟩
    rw [rg_cl hl, hg j hl, hlo j (by omega)]
    exact br_t rfl (nm_r (nI_1 j) ih')

theorem rg_yfirst (i : Int32) {c : Nat} (hc : c ≤ 8) (a s : Nat → Int32) {m : Nat} (hm : m < 720) (hpm : rg_gd s (a m) c = true) (hlo : ∀ n, n < m → rg_gd s (a n) c = false)
    (post : Int32 → Prop) (hp : post (rg_at (a m) i)) :
    ∀ d j : Nat, j + d = m → wY_first_13 post i (nI c) a s (d + 1) (nI j) := by
  have hend : wY_first_34 post i (nI m) (nI c) a s := rg_yat (c := nI c) (t := s) hm rfl hp
  intro d
  induction d with
  | zero =>
    intro j hj
    have e : j = m := by omega
    subst e
    by_cases h9 : 719 ≤ j
    · exact br_t (nI_le (a := 719) h9 (by omega)) hend
    · refine br_f (nI_ge (b := 719) (by omega) (by decide)) (rg_ygoodw hm hc _ ?_)
      rw [hpm]
      exact br_f (by decide) hend
  | succ d ih =>
    intro j hj
    have hl : j < 720 := by omega
    have ih' := ih (j + 1) (by omega)
    refine br_f (nI_ge (b := 719) (by omega) (by decide)) (rg_ygoodw hl hc _ ?_)
    rw [hlo j (by omega)]
    exact br_t rfl (nm_r (nI_1 j) ih')

/-- the last good order, at m -/
theorem rg_xlast (i f : Int32) (a g s : Nat → Int32) (p : Nat → Bool) (hg : ∀ n, n < 720 → g n = rg_B (p n)) {m : Nat} (hm : m < 720) (hpm : p m = true) (hhi : ∀ n, m < n → n < 720 → p n = false)
    (post : Int32 → Prop) (hp : post (rg_at (a m) i)) :
    ∀ d : Nat, m + d < 720 → wX_last_13 post i f a g s (d + 1) (nI (m + d)) := by
  intro d
  induction d with
  | zero =>
    intro hd
    show wX_last_13 post i f a g s (0 + 1) (nI m)
    refine br_f (nI_pos (by omega)) ⟨rg_in hm, ?_⟩
    rw [rg_cl hm, hg m hm, hpm]
    exact br_f (by decide) ⟨rg_in hm, hp⟩
  | succ d ih =>
    intro hd
    have ih' := ih (by omega)
    refine br_f (nI_pos (by omega)) ⟨rg_in hd, ?_⟩
    rw [rg_cl hd, hg _ hd, hhi _ (by omega) hd]
    exact br_t rfl (nm_r (pk_m1 (m + d)) ih')

theorem rg_ylast (i : Int32) {c : Nat} (hc : c ≤ 8) (a s : Nat → Int32) {m : Nat} (hm : m < 720) (hpm : rg_gd s (a m) c = true) (hhi : ∀ n, m < n → n < 720 → rg_gd s (a n) c = false)
    (post : Int32 → Prop) (hp : post (rg_at (a m) i)) :
    ∀ d : Nat, m + d < 720 → wY_last_15 post i (nI c) a s (d + 1) (nI (m + d)) := by
  have hend : wY_last_33 post i (nI m) (nI c) a s := rg_yat (c := nI c) (t := s) hm rfl hp
  intro d
  induction d with
  | zero =>
    intro hd
    show wY_last_15 post i (nI c) a s (0 + 1) (nI m)
    by_cases h0 : m = 0
    · subst h0
      exact br_t (by decide) hend
    · refine br_f (nI_nle (by omega) (by omega)) (rg_ygoodw hm hc _ ?_)
      rw [hpm]
      exact br_f (by decide) hend
  | succ d ih =>
    intro hd
    have ih' := ih (by omega)
    refine br_f (nI_nle (by omega) (by omega)) (rg_ygoodw hd hc _ ?_)
    rw [hhi _ (by omega) hd]
    exact br_t rfl (nm_r (pk_m1 (m + d)) ih')

/-- the places of t -/
theorem rg_xplaces (t f : Int32) (a g s : Nat → Int32) (p : Nat → Bool) (hg : ∀ n, n < 720 → g n = rg_B (p n))
    (v : Nat → Int32) (hv : ∀ n, v n = rg_pl (rg_bit (a n) ((1 : Int32) <<< (t &&& 31))) 6)
    (post : Int32 → Prop) (hp : post (rg_acc p v 720)) :
    ∀ d j : Nat, j + d = 720 → wX_places_13 post t f a g s (d + 1) (rg_acc p v j) (nI j) := by
  intro d
  induction d with
  | zero =>
    intro j hj
    have e : j = 720 := by omega
    subst e
    exact br_t rg_y720 hp
  | succ d ih =>
    intro j hj
    have hl : j < 720 := by omega
    have ih' := ih (j + 1) (by omega)
    refine br_f (rg_n720 hl) ⟨rg_in hl, ?_⟩
    rw [rg_cl hl, hg j hl]
    cases hpj : p j with
    | false =>
      rw [rg_acc_f v hpj] at ih'
      exact br_t rfl (nm_r (nI_1 j) ih')
    | true =>
      refine br_f (by decide) ⟨rg_in hl, rg_xplw (a j) _ _ ?_⟩
      rw [← hv j]
      exact nm_r (rg_acc_t v hpj) (nm_r (nI_1 j) ih')

theorem rg_yplin {n : Nat} (hn : n < 720) (t c : Int32) (a s : Nat → Int32) (F : Int32) (b : Nat → Bool) (hb : ∀ i, b i = decide (rg_at (a n) (nI i) = t))
    (post : Int32 → Prop) (J : Int32 → Int32 → Prop) (hJ : J (rg_plf F b 6) (nI (n + 1))) :
    ∀ d j : Nat, j + d = 6 → wY_places_33 post J t (nI n) c a s (d + 1) (rg_plf F b j) (nI j) := by
  intro d
  induction d with
  | zero =>
    intro j hj
    have e : j = 6 := by omega
    subst e
    exact br_t rg_y6 (nm_r (nI_1 n) hJ)
  | succ d ih =>
    intro j hj
    have h : ¬ (6 : Int32) ≤ nI j := rg_n6 (by omega)
    have ih' := ih (j + 1) (by omega)
    refine br_f h (rg_yat hn rfl ?_)
    by_cases ht : rg_at (a n) (nI j) = t
    · have hb' : b j = true := by rw [hb j]; exact decide_eq_true ht
      have e : rg_plf F b j ||| ((1 : Int32) <<< (nI j &&& 31)) = rg_plf F b (j + 1) := by rw [rg_plf_s, if_pos hb']
      exact br_t ht (nm_r e (nm_r (nI_1 j) ih'))
    · have hb' : ¬ b j = true := by rw [hb j]; intro z; exact ht (of_decide_eq_true z)
      have e : rg_plf F b (j + 1) = rg_plf F b j := by rw [rg_plf_s, if_neg hb']
      rw [e] at ih'
      exact br_f ht (nm_r (nI_1 j) ih')

theorem rg_yplaces {t : Nat} (ht : t < 6) {c : Nat} (hc : c ≤ 8) (a s : Nat → Int32)
    (v : Nat → Int32) (hv : ∀ n, v n = rg_pl (rg_bit (a n) ((1 : Int32) <<< (nI t &&& 31))) 6)
    (p : Nat → Bool) (hpp : ∀ n, p n = rg_gd s (a n) c)
    (post : Int32 → Prop) (hp : post (rg_acc p v 720)) :
    ∀ d j : Nat, j + d = 720 → wY_places_15 post (nI t) (nI c) a s (d + 1) (rg_acc p v j) (nI j) := by
  intro d
  induction d with
  | zero =>
    intro j hj
    have e : j = 720 := by omega
    subst e
    exact br_t rg_y720 hp
  | succ d ih =>
    intro j hj
    have hl : j < 720 := by omega
    have ih' := ih (j + 1) (by omega)
    refine br_f (rg_n720 hl) (rg_ygoodw hl hc _ ?_)
    rw [← hpp j]
    cases hpj : p j with
    | false =>
      rw [rg_acc_f v hpj] at ih'
      exact br_t rfl (nm_r (nI_1 j) ih')
    | true =>
      refine br_f (by decide) ⟨7, rg_yplin hl (nI t) (nI c) a s (rg_acc p v j) (rg_bit (a j) ((1 : Int32) <<< (nI t &&& 31))) (rg_bit1 (a j) ht) post _ ?_ 6 0 rfl⟩
      rw [rg_plf_eq, ← hv j, rg_acc_t v hpj]
      exact ih'

/-- the things beside t in one order -/
theorem rg_xnext (o t : Int32) (post : Int32 → Prop) (hp : post (rg_nx o t 5)) :
    ∀ d k : Nat, k + d = 5 → wX_nextTo_4 post o t (d + 1) (rg_nx o t k) (nI (k + 1)) := by
  intro d
  induction d with
  | zero =>
    intro k hk
    have e : k = 5 := by omega
    subst e
    exact br_t rg_y6 hp
  | succ d ih =>
    intro k hk
    have h : ¬ (6 : Int32) ≤ nI (k + 1) := rg_n6 (by omega)
    have ih' := ih (k + 1) (by omega)
    refine br_f h ?_
    rw [nI_pred]
    by_cases h1 : rg_at o (nI k) = t
    · by_cases h2 : rg_at o (nI (k + 1)) = t
      · exact br_t h1 (nm_e (br_t h2 (nm_r (rg_nx_tt h1 h2) (nm_r (nI_1 (k + 1)) ih'))))
      · exact br_t h1 (nm_r (rg_nx_tf h1 h2) (br_f h2 (nm_r (nI_1 (k + 1)) ih')))
    · by_cases h2 : rg_at o (nI (k + 1)) = t
      · exact br_f h1 (br_t h2 (nm_r (rg_nx_ft h1 h2) (nm_r (nI_1 (k + 1)) ih')))
      · rw [← rg_nx_ff h1 h2] at ih'
        exact br_f h1 (br_f h2 (nm_r (nI_1 (k + 1)) ih'))

theorem rg_xnextw (o t : Int32) (post : Int32 → Prop) (hp : post (rg_nx o t 5)) : wpX_nextTo post o t := ⟨6, rg_xnext o t post hp 5 0 rfl⟩

theorem rg_ynext {n : Nat} (hn : n < 720) (t c : Int32) (a s : Nat → Int32) (post : Int32 → Prop) (hp : post (rg_nx (a n) t 5)) :
    ∀ d k : Nat, k + d = 5 → wY_beside_5 post (nI n) t c a s (d + 1) (rg_nx (a n) t k) (nI k) := by
  intro d
  induction d with
  | zero =>
    intro k hk
    have e : k = 5 := by omega
    subst e
    exact br_t (nI_le (a := 5) (b := 5) (Nat.le_refl _) (by decide)) hp
  | succ d ih =>
    intro k hk
    have h : ¬ (5 : Int32) ≤ nI k := nI_ge (b := 5) (by omega) (by decide)
    have ih' := ih (k + 1) (by omega)
    refine br_f h (rg_yat hn rfl ?_)
    by_cases h1 : rg_at (a n) (nI k) = t
    · refine br_t h1 (rg_yat hn (nI_1 k) (rg_yat hn (nI_1 k) ?_))
      by_cases h2 : rg_at (a n) (nI (k + 1)) = t
      · exact br_t h2 (rg_yat hn rfl (nm_r (rg_nx_tt h1 h2) (nm_r (nI_1 k) ih')))
      · rw [← rg_nx_tf h1 h2] at ih'
        exact br_f h2 (nm_r (nI_1 k) ih')
    · refine br_f h1 (rg_yat hn (nI_1 k) ?_)
      by_cases h2 : rg_at (a n) (nI (k + 1)) = t
      · exact br_t h2 (rg_yat hn rfl (nm_r (rg_nx_ft h1 h2) (nm_r (nI_1 k) ih')))
      · rw [← rg_nx_ff h1 h2] at ih'
        exact br_f h2 (nm_r (nI_1 k) ih')

theorem rg_ynextw {n : Nat} (hn : n < 720) (t : Int32) {c : Int32} {a s : Nat → Int32} (post : Int32 → Prop) (hp : post (rg_nx (a n) t 5)) : wpY_beside post (c, a, s) (nI n) t :=
  ⟨6, rg_ynext hn t c a s post hp 5 0 rfl⟩

theorem rg_xneigh (t f : Int32) (a g s : Nat → Int32) (p : Nat → Bool) (hg : ∀ n, n < 720 → g n = rg_B (p n))
    (v : Nat → Int32) (hv : ∀ n, v n = rg_nx (a n) t 5)
    (post : Int32 → Prop) (hp : post (rg_acc p v 720)) :
    ∀ d j : Nat, j + d = 720 → wX_neighbours_13 post t f a g s (d + 1) (rg_acc p v j) (nI j) := by
  intro d
  induction d with
  | zero =>
    intro j hj
    have e : j = 720 := by omega
    subst e
    exact br_t rg_y720 hp
  | succ d ih =>
    intro j hj
    have hl : j < 720 := by omega
    have ih' := ih (j + 1) (by omega)
    refine br_f (rg_n720 hl) ⟨rg_in hl, ?_⟩
    rw [rg_cl hl, hg j hl]
    cases hpj : p j with
    | false =>
      rw [rg_acc_f v hpj] at ih'
      exact br_t rfl (nm_r (nI_1 j) ih')
    | true =>
      refine br_f (by decide) ⟨rg_in hl, rg_xnextw (a j) t _ ?_⟩
      rw [← hv j]
      exact nm_r (rg_acc_t v hpj) (nm_r (nI_1 j) ih')

theorem rg_yneigh (t : Int32) {c : Nat} (hc : c ≤ 8) (a s : Nat → Int32)
    (v : Nat → Int32) (hv : ∀ n, v n = rg_nx (a n) t 5)
    (p : Nat → Bool) (hpp : ∀ n, p n = rg_gd s (a n) c)
    (post : Int32 → Prop) (hp : post (rg_acc p v 720)) :
    ∀ d j : Nat, j + d = 720 → wY_neighbours_15 post t (nI c) a s (d + 1) (rg_acc p v j) (nI j) := by
  intro d
  induction d with
  | zero =>
    intro j hj
    have e : j = 720 := by omega
    subst e
    exact br_t rg_y720 hp
  | succ d ih =>
    intro j hj
    have hl : j < 720 := by omega
    have ih' := ih (j + 1) (by omega)
    refine br_f (rg_n720 hl) (rg_ygoodw hl hc _ ?_)
    rw [← hpp j]
    cases hpj : p j with
    | false =>
      rw [rg_acc_f v hpj] at ih'
      exact br_t rfl (nm_r (nI_1 j) ih')
    | true =>
      refine br_f (by decide) (rg_ynextw hl t _ ?_)
      rw [← hv j]
      exact nm_r (rg_acc_t v hpj) (nm_r (nI_1 j) ih')

/-- how many of the 64 sets; R: whether the set stands together in all good orders -/
theorem rg_xgroups (f : Int32) (a g s : Nat → Int32) (p : Nat → Bool) (hg : ∀ n, n < 720 → g n = rg_B (p n))
    (R : Nat → Bool) (hR : ∀ w, R w = true ↔ ∀ n, n < 720 → p n = true → rg_st (a n) (nI w) = true)
    (post : Int32 → Prop) (hp : post (nI (rg_cnt R 64))) :
    ∀ d w : Nat, w + d = 64 → wX_groups_4 post f a g s (d + 1) (nI (rg_cnt R w)) (nI w) := by
  intro d
  induction d with
  | zero =>
    intro w hw
    have e : w = 64 := by omega
    subst e
    exact br_t (nI_le (a := 64) (b := 64) (Nat.le_refl _) (by decide)) hp
  | succ d ih =>
    intro w hw
    have ih' := ih (w + 1) (by omega)
    refine br_f (nI_ge (b := 64) (by omega) (by decide)) (rg_xallw (R w) hg (hR w) _ ?_)
    cases hr : R w with
    | false =>
      rw [rg_cnt_f hr] at ih'
      exact br_t rfl (nm_r (nI_1 w) ih')
    | true =>
      exact br_f (by decide) (nm_r (rg_cnt_t hr) (nm_r (nI_1 w) ih'))

theorem rg_ygroups {c : Nat} (hc : c ≤ 8) (a s : Nat → Int32) (Z : Nat) (R : Nat → Bool)
    (hR : ∀ w, w < 64 → (nI (rg_cnt (fun n => rg_gd s (a n) c && rg_st (a n) (nI w)) 720) = nI Z ↔ R w = true))
    (post : Int32 → Prop) (hp : post (nI (rg_cnt R 64))) :
    ∀ d w : Nat, w + d = 64 → wY_groups_10 post (nI Z) (nI c) a s (d + 1) (nI (rg_cnt R w)) (nI w) := by
  intro d
  induction d with
  | zero =>
    intro w hw
    have e : w = 64 := by omega
    subst e
    exact br_t (nI_le (a := 64) (b := 64) (Nat.le_refl _) (by decide)) hp
  | succ d ih =>
    intro w hw
    have ih' := ih (w + 1) (by omega)
    refine br_f (nI_ge (b := 64) (by omega) (by decide)) (rg_ycfw hc (fun n => rg_gd s (a n) c && rg_st (a n) (nI w)) (fun _ _ => rfl) _ ?_)
    by_cases hz : nI (rg_cnt (fun n => rg_gd s (a n) c && rg_st (a n) (nI w)) 720) = nI Z
    · exact br_t hz (nm_r (rg_cnt_t ((hR w (by omega)).mp hz)) (nm_r (nI_1 w) ih'))
    · have hr : R w = false := by
        cases hr : R w with
        | false => rfl
        | true => exact absurd ((hR w (by omega)).mpr hr) hz
      rw [rg_cnt_f hr] at ih'
      exact br_f hz (nm_r (nI_1 w) ih')
