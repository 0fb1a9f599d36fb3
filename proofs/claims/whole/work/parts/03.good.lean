/-! Standing together and good orders, each side against the pure picture. -/

theorem rg_xpl (o s : Int32) (post : Int32 → Prop) (hp : post (rg_pl (rg_bit o s) 6)) :
    ∀ d j : Nat, j + d = 6 → wX_placesOf_4 post o s (d + 1) (rg_pl (rg_bit o s) j) (nI j) := by
  intro d
  induction d with
  | zero =>
    intro j hj
    have e : j = 6 := by omega
    subst e
    exact br_t rg_y6 hp
  | succ d ih =>
    intro j hj
    have h : ¬ (6 : Int32) ≤ nI j := rg_n6 (by omega)
    have ih' := ih (j + 1) (by omega)
    by_cases hb : ((s >>> (rg_at o (nI j) &&& 31)) &&& 1) = 1
    · have hb' : rg_bit o s j = true := decide_eq_true hb
      have e : rg_pl (rg_bit o s) j ||| ((1 : Int32) <<< (nI j &&& 31)) = rg_pl (rg_bit o s) (j + 1) := by rw [rg_pl_s, if_pos hb']
      exact br_f h (br_t hb (nm_r e (nm_r (nI_1 j) ih')))
    · have hb' : ¬ rg_bit o s j = true := by
        intro z
        exact hb (of_decide_eq_true z)
      have e : rg_pl (rg_bit o s) (j + 1) = rg_pl (rg_bit o s) j := by rw [rg_pl_s, if_neg hb']
      rw [e] at ih'
      exact br_f h (br_f hb (nm_r (nI_1 j) ih'))

theorem rg_xplw (o s : Int32) (post : Int32 → Prop) (hp : post (rg_pl (rg_bit o s) 6)) : wpX_placesOf post o s := ⟨7, rg_xpl o s post hp 6 0 rfl⟩

theorem rg_xst (o s : Int32) (post : Int32 → Prop) (hp : post (rg_B (rg_st o s))) : wpX_standsTogether post o s := by
  unfold wpX_standsTogether
  refine rg_xplw o s _ ?_
  refine nm_e ?_
  by_cases hc : ((rg_pl (rg_bit o s) 6 + (rg_pl (rg_bit o s) 6 &&& (-rg_pl (rg_bit o s) 6))) &&& rg_pl (rg_bit o s) 6) = 0
  · have hs : rg_st o s = true := decide_eq_true ((rg_carry _).mp hc)
    rw [hs] at hp
    exact br_t hc hp
  · have hs : rg_st o s = false := decide_eq_false (fun z => hc ((rg_carry _).mpr z))
    rw [hs] at hp
    exact br_f hc hp

theorem rg_yat {c : Int32} {a t : Nat → Int32} {n : Nat} (hn : n < 720) {i i' : Int32} (e : i = i') {post : Int32 → Prop} (hp : post (rg_at (a n) i')) : wpY_at post (c, a, t) (nI n) i := by
  subst e
  unfold wpY_at
  dsimp only
  rw [rg_cl hn]
  exact ⟨rg_in hn, hp⟩

theorem rg_yst (c : Int32) (a t : Nat → Int32) {n : Nat} (hn : n < 720) (s : Int32) (post : Int32 → Prop) (hp : post (rg_B (rg_st (a n) s))) :
    ∀ d j : Nat, j + d = 6 → wY_stands_8 post (nI n) s c a t (d + 1) (nI (rg_bg (rg_bit (a n) s) j)) (rg_B (rg_bf (rg_bit (a n) s) j)) (nI j) := by
  intro d
  induction d with
  | zero =>
    intro j hj
    have e : j = 6 := by omega
    subst e
    refine br_t rg_y6 ?_
    have hl := rg_bg_le (rg_bit (a n) s) 6
    by_cases hb : rg_bg (rg_bit (a n) s) 6 < 2
    · have hs : rg_st (a n) s = true := decide_eq_true hb
      rw [hs] at hp
      exact br_f (nI_ge (b := 2) hb (by decide)) hp
    · have hs : rg_st (a n) s = false := decide_eq_false hb
      rw [hs] at hp
      exact br_t (nI_le (a := 2) (by omega) (by omega)) hp
  | succ d ih =>
    intro j hj
    have h : ¬ (6 : Int32) ≤ nI j := rg_n6 (by omega)
    have ih' := ih (j + 1) (by omega)
    have eb : rg_bf (rg_bit (a n) s) (j + 1) = rg_bit (a n) s j := rfl
    rw [eb] at ih'
    refine br_f h (rg_yat hn rfl ?_)
    by_cases hb : ((s >>> (rg_at (a n) (nI j) &&& 31)) &&& 1) = 1
    · have hb' : rg_bit (a n) s j = true := decide_eq_true hb
      rw [hb'] at ih'
      have hz : ¬ (1 : Int32) = 0 := by decide
      refine br_t hb (br_f hz ?_)
      cases hf : rg_bf (rg_bit (a n) s) j with
      | false =>
        have e : nI (rg_bg (rg_bit (a n) s) j) + 1 = nI (rg_bg (rg_bit (a n) s) (j + 1)) := by
          rw [rg_bg_s, if_pos ⟨hb', hf⟩, nI_1]
        exact br_t rfl (nm_r e (nm_r (nI_1 j) ih'))
      | true =>
        have e : rg_bg (rg_bit (a n) s) (j + 1) = rg_bg (rg_bit (a n) s) j := by
          rw [rg_bg_s, if_neg (fun z => by rw [hf] at z; exact absurd z.2 (by decide))]
        rw [e] at ih'
        exact br_f (by decide) (nm_r (nI_1 j) ih')
    · have hb' : rg_bit (a n) s j = false := decide_eq_false hb
      have e : rg_bg (rg_bit (a n) s) (j + 1) = rg_bg (rg_bit (a n) s) j := by
        rw [rg_bg_s, if_neg (fun z => by rw [hb'] at z; exact absurd z.1 (by decide))]
      rw [hb', e] at ih'
      exact br_f hb (br_t rfl (nm_r (nI_1 j) ih'))

theorem rg_ystw {c : Int32} {a t : Nat → Int32} {n : Nat} (hn : n < 720) (s : Int32) (post : Int32 → Prop) (hp : post (rg_B (rg_st (a n) s))) : wpY_stands post (c, a, t) (nI n) s :=
  ⟨7, rg_yst c a t hn s post hp 6 0 rfl⟩

theorem rg_gd_no {s : Nat → Int32} {o : Int32} {c j : Nat} (hj : j < c) (hs : rg_st o (s j) = false) : rg_gd s o c = false := by
  cases hg : rg_gd s o c with
  | false => rfl
  | true =>
    have h := (rg_gd_iff s o c).mp hg j hj
    rw [hs] at h
    exact absurd h (by decide)

theorem rg_xmeet (o : Int32) {c : Nat} (hc : c ≤ 8) (a g s : Nat → Int32) (post : Int32 → Prop) (hp : post (rg_B (rg_gd s o c))) :
    ∀ d j : Nat, j + d = c → rg_gd s o j = true → wX_meetsAllDemands_2 post o (nI c) a g s (d + 1) (nI j) := by
  intro d
  induction d with
  | zero =>
    intro j hj hg
    have e : j = c := by omega
    subst e
    rw [hg] at hp
    exact br_t (nI_le (Nat.le_refl j) (by omega)) hp
  | succ d ih =>
    intro j hj hg
    have hcl : (nI j).toNatClampNeg = j := nI_clamp (by omega)
    refine br_f (nI_ge (by omega) (by omega)) ⟨vp_in_nI (by omega) (by decide), ?_⟩
    rw [hcl]
    refine rg_xst o (s j) _ ?_
    cases hs : rg_st o (s j) with
    | false =>
      rw [rg_gd_no (by omega) hs] at hp
      exact br_t rfl hp
    | true =>
      have ih' := ih (j + 1) (by omega) (by rw [rg_gd_s, hg, hs]; rfl)
      exact br_f (by decide) (nm_r (nI_1 j) ih')

theorem rg_xmeetw (o : Int32) {c : Nat} (hc : c ≤ 8) (a g s : Nat → Int32) (post : Int32 → Prop) (hp : post (rg_B (rg_gd s o c))) : wpX_meetsAllDemands post (nI c, a, g, s) o :=
  ⟨c + 1, rg_xmeet o hc a g s post hp c 0 (Nat.zero_add c) rfl⟩

theorem rg_ygood {n : Nat} (hn : n < 720) {c : Nat} (hc : c ≤ 8) (a s : Nat → Int32) (post : Int32 → Prop) (hp : post (rg_B (rg_gd s (a n) c))) :
    ∀ d j : Nat, j + d = c → rg_gd s (a n) j = true → wY_isGood_2 post (nI n) (nI c) a s (d + 1) (nI j) := by
  intro d
  induction d with
  | zero =>
    intro j hj hg
    have e : j = c := by omega
    subst e
    rw [hg] at hp
    exact br_t (nI_le (Nat.le_refl j) (by omega)) hp
  | succ d ih =>
    intro j hj hg
    have hcl : (nI j).toNatClampNeg = j := nI_clamp (by omega)
    refine br_f (nI_ge (by omega) (by omega)) ⟨vp_in_nI (by omega) (by decide), ?_⟩
    rw [hcl]
    refine rg_ystw hn (s j) _ ?_
    cases hs : rg_st (a n) (s j) with
    | false =>
      rw [rg_gd_no (by omega) hs] at hp
      exact br_t rfl hp
    | true =>
      have ih' := ih (j + 1) (by omega) (by rw [rg_gd_s, hg, hs]; rfl)
      exact br_f (by decide) (nm_r (nI_1 j) ih')

theorem rg_ygoodw {n : Nat} (hn : n < 720) {c : Nat} (hc : c ≤ 8) {a s : Nat → Int32} (post : Int32 → Prop) (hp : post (rg_B (rg_gd s (a n) c))) : wpY_isGood post (nI c, a, s) (nI n) :=
  ⟨c + 1, rg_ygood hn hc a s post hp c 0 (Nat.zero_add c) rfl⟩

/-- the marks are made anew -/
theorem rg_xfind {c : Nat} (hc : c ≤ 8) (a s : Nat → Int32) (post : SX → Prop)
    (hp : ∀ g : Nat → Int32, (∀ n, n < 720 → g n = rg_B (rg_gd s (a n) c)) → post (nI c, a, g, s)) :
    ∀ (d j : Nat) (g : Nat → Int32), j + d = 720 → (∀ n, n < j → g n = rg_B (rg_gd s (a n) c)) → wX_findGoodOrders_2 post (nI c) (d + 1) (nI j) a g s := by
  intro d
  induction d with
  | zero =>
    intro j g hj hg
    have e : j = 720 := by omega
    subst e
    exact br_t rg_y720 (hp g hg)
  | succ d ih =>
    intro j g hj hg
    have hl : j < 720 := by omega
    have ih' := ih (j + 1) (upd g j (vp_nar .boolean (rg_B (rg_gd s (a j) c)))) (by omega) (by
      intro n hn
      by_cases e : n = j
      · rw [e, pk_us, rg_nar]
      · rw [pk_un e]; exact hg n (by omega))
    refine br_f (rg_n720 hl) ⟨rg_in hl, ?_⟩
    rw [rg_cl hl]
    refine rg_xmeetw (a j) hc a g s _ ⟨rg_in hl, ?_⟩
    exact nm_e (nm_r (nI_1 j) ih')

theorem rg_xfindw {c : Nat} (hc : c ≤ 8) (a g s : Nat → Int32) (post : SX → Prop)
    (hp : ∀ g : Nat → Int32, (∀ n, n < 720 → g n = rg_B (rg_gd s (a n) c)) → post (nI c, a, g, s)) : wpX_findGoodOrders post (nI c, a, g, s) :=
  ⟨721, rg_xfind hc a s post hp 720 0 g rfl (fun n h => absurd h (Nat.not_lt_zero n))⟩
