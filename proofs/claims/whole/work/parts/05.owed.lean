/-! The relation and what is owed. -/

/-- The counts, the tables of orders and the demanded sets are the same on both sides; the marks tell the good orders, and there is one. -/
def i_Rel (_ : Nat) (u : SX) (v : SY) : Prop := ∃ (c : Nat) (a g s : Nat → Int32), u = (nI c, a, g, s) ∧ v = (nI c, a, s) ∧ c ≤ 8 ∧ (∀ n, n < 720 → g n = rg_B (rg_gd s (a n) c)) ∧ ∃ n, n < 720 ∧ rg_gd s (a n) c = true

theorem i_up {k : Nat} {u : SX} {v : SY} (h : i_Rel k u v) : i_Rel (k + 2) u v := h

theorem i_vc0 : wpX_init (fun u => wpY_init (fun v => i_Rel 0 u v)) := by
  obtain ⟨f, hf⟩ := Classical.axiomOfChoice (fun n : Nat => rg_order (nI n))
  have hrel : i_Rel 0 (0, rg_tab f 720, rg_ones 720, fun _ => 0) (0, rg_tab f 720, fun _ => 0) :=
    ⟨0, rg_tab f 720, rg_ones 720, fun _ => 0, rfl, rfl, by decide, fun n hn => rg_ones_lt 720 n hn, 0, by decide, rfl⟩
  have hy : wpY_init (fun v => i_Rel 0 (0, rg_tab f 720, rg_ones 720, fun _ => 0) v) := ⟨721, rg_yinit f (fun n => (hf n).2) _ hrel 720 0 rfl⟩
  exact ⟨721, rg_xinit f (fun n => (hf n).1) _ hy 720 0 rfl⟩

theorem rg_isSet (v : Int32) : ∃ b : Bool, (∀ post : Int32 → Prop, post (rg_B b) → wpX_isSet post v) ∧ (∀ (post : Int32 → Prop) (c : Int32) (a s : Nat → Int32), post (rg_B b) → wpY_isSet post (c, a, s) v) := by
  by_cases h0 : v < 0
  · exact ⟨false, fun _ hp => br_t h0 hp, fun _ _ _ _ hp => br_t h0 hp⟩
  · obtain ⟨j, hj, rfl⟩ := nI_of h0
    by_cases h : j < 64
    · exact ⟨true, fun _ hp => br_f h0 (br_f (nI_ge (b := 64) h (by decide)) hp), fun _ _ _ _ hp => br_f h0 (br_f (nI_nlt (a := 63) (by omega) (by decide)) hp)⟩
    · exact ⟨false, fun _ hp => br_f h0 (br_t (nI_le (a := 64) (by omega) hj) hp), fun _ _ _ _ hp => br_f h0 (br_t (nI_lt (a := 63) (by omega) hj) hp)⟩

theorem rg_thing (v : Int32) : (∃ t : Nat, t < 6 ∧ v = nI t) ∨ ((∀ post : Int32 → Prop, post 0 → wpX_isThingOrPlace post v) ∧ (v < 0 ∨ (¬ v < 0 ∧ ¬ v ≤ 5))) := by
  by_cases h0 : v < 0
  · exact Or.inr ⟨fun _ hp => br_t h0 hp, Or.inl h0⟩
  · obtain ⟨j, hj, rfl⟩ := nI_of h0
    by_cases h : j < 6
    · exact Or.inl ⟨j, h, rfl⟩
    · exact Or.inr ⟨fun _ hp => br_f h0 (br_t (nI_le (a := 6) (by omega) hj) hp), Or.inr ⟨h0, nI_ge (a := 5) (by omega) hj⟩⟩

theorem rg_xthing {t : Nat} (ht : t < 6) (post : Int32 → Prop) (hp : post 1) : wpX_isThingOrPlace post (nI t) := br_f (nI_pos (by omega)) (br_f (rg_n6 ht) hp)

theorem rg_bad {v : Int32} {A P : Prop} (h : v < 0 ∨ (¬ v < 0 ∧ ¬ v ≤ 5)) (hp : P) : (v < 0 → P) ∧ (¬ v < 0 → ((v ≤ 5 → A) ∧ (¬ v ≤ 5 → P))) :=
  ⟨fun _ => hp, fun h0 => ⟨fun h5 => absurd h5 (h.elim (fun z => absurd z h0) (fun z => z.2)), fun _ => hp⟩⟩

theorem rg_ok {t : Nat} (ht : t < 6) {A P B : Prop} (ha : A) : (nI t < 0 → P) ∧ (¬ nI t < 0 → ((nI t ≤ 5 → A) ∧ (¬ nI t ≤ 5 → B))) :=
  br_f (nI_pos (by omega)) (br_t (nI_le (b := 5) (by omega) (by decide)) ha)

theorem rg_all0 (s a : Nat → Int32) (c : Nat) : ∀ n, n < 720 → rg_gd s (a n) c = (rg_gd s (a n) c && rg_st (a n) 0) := by
  intro n _
  rw [rg_st0, Bool.and_true]

theorem rg_c31 (p : Nat → Bool) : rg_cnt p 720 < 2 ^ 31 := Nat.lt_of_le_of_lt (rg_cnt_le p 720) (by decide)

theorem i_vc_demand {k : Nat} {u : SX} {v : SY} (I : i_Rel k u v) (hk : k + 2 ≤ 1024) (v1 : Int32) : wpX_demand (fun r u' => wpY_demand (fun r' v' => r' = r ∧ i_Rel (k + 2) u' v') v v1) u v1 := by
  obtain ⟨c, a, g, s, rfl, rfl, hc, hg, hx⟩ := I
  have hr : i_Rel (k + 2) (nI c, a, g, s) (nI c, a, s) := ⟨c, a, g, s, rfl, rfl, hc, hg, hx⟩
  obtain ⟨b, bX, bY⟩ := rg_isSet v1
  unfold wpX_demand
  dsimp only
  refine bX _ ?_
  cases b with
  | false =>
    refine br_t rfl ?_
    unfold wpY_demand
    dsimp only
    exact bY _ _ _ _ (br_t rfl ⟨rfl, hr⟩)
  | true =>
    refine br_f (by decide) ?_
    by_cases h8 : c < 8
    · have hn8 : ¬ nI c = 8 := by
        intro z
        have z' : nI c = nI 8 := z
        rw [nI_eq (by omega) (by omega)] at z'
        omega
      have hin : vp_in (nI c) 8 := vp_in_nI h8 (by decide)
      have eu : upd s (nI c).toNatClampNeg v1 = upd s c v1 := by rw [nI_clamp (by omega)]
      refine br_t (nI_lt (b := 8) h8 (by decide)) (rg_xgww (p := fun n => rg_gd s (a n) c) (fun n => rg_gd s (a n) c && rg_st (a n) v1) hg (fun _ _ => rfl) _ ?_)
      by_cases hz : rg_cnt (fun n => rg_gd s (a n) c && rg_st (a n) v1) 720 = 0
      · have hz' : nI (rg_cnt (fun n => rg_gd s (a n) c && rg_st (a n) v1) 720) = 0 := by rw [hz]; rfl
        refine br_t hz' ?_
        unfold wpY_demand
        dsimp only
        refine bY _ _ _ _ (br_f (by decide) (br_f hn8 (rg_ycfw hc _ (fun _ _ => rfl) _ ?_)))
        exact br_t hz' ⟨rfl, hr⟩
      · have hz' : ¬ nI (rg_cnt (fun n => rg_gd s (a n) c && rg_st (a n) v1) 720) = 0 := nI_ne0 (Nat.pos_of_ne_zero hz) (rg_c31 _)
        refine br_f hz' ⟨hin, nm_r eu (nm_r (nI_1 c) (rg_xfindw (c := c + 1) (by omega) a g (upd s c v1) _ ?_))⟩
        intro g' hg'
        have hr' : i_Rel (k + 2) (nI (c + 1), a, g', upd s c v1) (nI (c + 1), a, upd s c v1) := by
          refine ⟨c + 1, a, g', upd s c v1, rfl, rfl, by omega, hg', ?_⟩
          obtain ⟨n, hn, hq⟩ := rg_cnt_pos.mp hz
          refine ⟨n, hn, ?_⟩
          have hq' := (Bool.and_eq_true _ _).mp hq
          rw [rg_gd_s, pk_us, rg_gd_congr (s' := s) (fun d hd => pk_un (by omega)), hq'.1, hq'.2]
          rfl
        show wpY_demand _ _ _
        unfold wpY_demand
        dsimp only
        refine bY _ _ _ _ (br_f (by decide) (br_f hn8 (rg_ycfw hc _ (fun _ _ => rfl) _ ?_)))
        exact br_f hz' ⟨hin, nm_r eu (nm_r (nI_1 c) ⟨rfl, hr'⟩)⟩
    · have e8 : c = 8 := by omega
      subst e8
      refine br_f (nI_nlt (b := 8) (Nat.le_refl 8) (by decide)) ?_
      unfold wpY_demand
      dsimp only
      exact bY _ _ _ _ (br_f (by decide) (br_t rfl ⟨rfl, hr⟩))

theorem i_vc_undo {k : Nat} {u : SX} {v : SY} (I : i_Rel k u v) (hk : k + 2 ≤ 1024) : wpX_undo (fun r u' => wpY_undo (fun r' v' => r' = r ∧ i_Rel (k + 2) u' v') v) u := by
  obtain ⟨c, a, g, s, rfl, rfl, hc, hg, hx⟩ := I
  cases c with
  | zero =>
    have hr : i_Rel (k + 2) (nI 0, a, g, s) (nI 0, a, s) := ⟨0, a, g, s, rfl, rfl, hc, hg, hx⟩
    unfold wpX_undo
    dsimp only
    refine br_f (by decide) ?_
    unfold wpY_undo
    dsimp only
    exact br_t rfl ⟨rfl, hr⟩
  | succ c =>
    have hin : vp_in (nI c) 8 := vp_in_nI (by omega) (by decide)
    unfold wpX_undo
    dsimp only
    refine br_t (nI_lt (a := 0) (by omega) (by omega)) (nm_r (nI_pred c) (rg_xfindw (c := c) (by omega) a g s _ ?_))
    intro g' hg'
    have hr' : i_Rel (k + 2) (nI c, a, g', s) (nI c, a, s) := by
      refine ⟨c, a, g', s, rfl, rfl, by omega, hg', ?_⟩
      obtain ⟨n, hn, hq⟩ := hx
      rw [rg_gd_s] at hq
      exact ⟨n, hn, ((Bool.and_eq_true _ _).mp hq).1⟩
    refine ⟨hin, ?_⟩
    unfold wpY_undo
    dsimp only
    exact br_f (nI_ne0 (by omega) (by omega)) (nm_r (nI_pred c) ⟨hin, ⟨rfl, hr'⟩⟩)

theorem i_vc_clear {k : Nat} {u : SX} {v : SY} (I : i_Rel k u v) (hk : k + 2 ≤ 1024) : wpX_clear (fun r u' => wpY_clear (fun r' v' => r' = r ∧ i_Rel (k + 2) u' v') v) u := by
  obtain ⟨c, a, g, s, rfl, rfl, hc, hg, hx⟩ := I
  unfold wpX_clear
  dsimp only
  refine rg_xfindw (c := 0) (by decide) a g s _ ?_
  intro g' hg'
  unfold wpY_clear
  dsimp only
  exact ⟨rfl, 0, a, g', s, rfl, rfl, by decide, hg', 0, by decide, rfl⟩

theorem i_vc_demands {k : Nat} {u : SX} {v : SY} (I : i_Rel k u v) (hk : k + 2 ≤ 1024) : wpX_demands (fun r => wpY_demands (fun r' => r' = r ∧ i_Rel (k + 2) u v) v) u := by
  obtain ⟨c, a, g, s, rfl, rfl, hc, hg, hx⟩ := I
  exact ⟨rfl, c, a, g, s, rfl, rfl, hc, hg, hx⟩

theorem i_vc_count {k : Nat} {u : SX} {v : SY} (I : i_Rel k u v) (hk : k + 2 ≤ 1024) : wpX_count (fun r => wpY_count (fun r' => r' = r ∧ i_Rel (k + 2) u v) v) u := by
  obtain ⟨c, a, g, s, rfl, rfl, hc, hg, hx⟩ := I
  have hr : i_Rel (k + 2) (nI c, a, g, s) (nI c, a, s) := ⟨c, a, g, s, rfl, rfl, hc, hg, hx⟩
  unfold wpX_count
  dsimp only
  refine rg_xgww (p := fun n => rg_gd s (a n) c) (fun n => rg_gd s (a n) c) hg (rg_all0 s a c) _ ?_
  unfold wpY_count
  dsimp only
  exact rg_ycfw hc (fun n => rg_gd s (a n) c) (rg_all0 s a c) _ ⟨rfl, hr⟩

theorem i_vc_first {k : Nat} {u : SX} {v : SY} (I : i_Rel k u v) (hk : k + 2 ≤ 1024) (v1 : Int32) : wpX_first (fun r => wpY_first (fun r' => r' = r ∧ i_Rel (k + 2) u v) v v1) u v1 := by
  obtain ⟨c, a, g, s, rfl, rfl, hc, hg, hx⟩ := I
  have hr : i_Rel (k + 2) (nI c, a, g, s) (nI c, a, s) := ⟨c, a, g, s, rfl, rfl, hc, hg, hx⟩
  rcases rg_thing v1 with ⟨t, ht, rfl⟩ | ⟨hX, hb⟩
  · obtain ⟨m, ⟨hm, hpm⟩, hlo⟩ := pk_least (fun n => n < 720 ∧ rg_gd s (a n) c = true) hx
    have hlo' : ∀ n, n < m → rg_gd s (a n) c = false := by
      intro n hn
      cases hd : rg_gd s (a n) c with
      | false => rfl
      | true => exact absurd ⟨by omega, hd⟩ (hlo n hn)
    unfold wpX_first
    dsimp only
    refine rg_xthing ht _ ?_
    refine br_f (by decide) ⟨m + 1, rg_xfirst (nI t) (nI c) a g s (fun n => rg_gd s (a n) c) hg hm hpm hlo' _ ?_ m 0 (Nat.zero_add m)⟩
    unfold wpY_first
    dsimp only
    exact rg_ok ht ⟨m + 1, rg_yfirst (nI t) hc a s hm hpm hlo' _ ⟨rfl, hr⟩ m 0 (Nat.zero_add m)⟩
  · unfold wpX_first
    dsimp only
    refine hX _ ?_
    refine br_t rfl ?_
    unfold wpY_first
    dsimp only
    exact rg_bad hb ⟨rfl, hr⟩

theorem i_vc_last {k : Nat} {u : SX} {v : SY} (I : i_Rel k u v) (hk : k + 2 ≤ 1024) (v1 : Int32) : wpX_last (fun r => wpY_last (fun r' => r' = r ∧ i_Rel (k + 2) u v) v v1) u v1 := by
  obtain ⟨c, a, g, s, rfl, rfl, hc, hg, hx⟩ := I
  have hr : i_Rel (k + 2) (nI c, a, g, s) (nI c, a, s) := ⟨c, a, g, s, rfl, rfl, hc, hg, hx⟩
  rcases rg_thing v1 with ⟨t, ht, rfl⟩ | ⟨hX, hb⟩
  · obtain ⟨m, hm, hpm, hhi⟩ := rg_last (fun n => rg_gd s (a n) c = true) 720 hx
    have hhi' : ∀ n, m < n → n < 720 → rg_gd s (a n) c = false := by
      intro n h1 h2
      cases hd : rg_gd s (a n) c with
      | false => rfl
      | true => exact absurd hd (hhi n h1 h2)
    have em : m + (719 - m) = 719 := by omega
    unfold wpX_last
    dsimp only
    refine rg_xthing ht _ ?_
    refine br_f (by decide) ⟨719 - m + 1, ?_⟩
    have hX : ∀ post : Int32 → Prop, post (rg_at (a m) (nI t)) → wX_last_13 post (nI t) (nI c) a g s (719 - m + 1) (nI 719) := by
      intro post hp
      have h := rg_xlast (nI t) (nI c) a g s (fun n => rg_gd s (a n) c) hg hm hpm hhi' post hp (719 - m) (by omega)
      rw [em] at h
      exact h
    have hY : ∀ post : Int32 → Prop, post (rg_at (a m) (nI t)) → wY_last_15 post (nI t) (nI c) a s (719 - m + 1) (nI 719) := by
      intro post hp
      have h := rg_ylast (nI t) hc a s hm hpm hhi' post hp (719 - m) (by omega)
      rw [em] at h
      exact h
    refine hX _ ?_
    unfold wpY_last
    dsimp only
    exact rg_ok ht ⟨719 - m + 1, hY _ ⟨rfl, hr⟩⟩
  · unfold wpX_last
    dsimp only
    refine hX _ ?_
    refine br_t rfl ?_
    unfold wpY_last
    dsimp only
    exact rg_bad hb ⟨rfl, hr⟩

theorem i_vc_allowed {k : Nat} {u : SX} {v : SY} (I : i_Rel k u v) (hk : k + 2 ≤ 1024) (v1 : Int32) : wpX_allowed (fun r => wpY_allowed (fun r' => r' = r ∧ i_Rel (k + 2) u v) v v1) u v1 := by
  obtain ⟨c, a, g, s, rfl, rfl, hc, hg, hx⟩ := I
  have hr : i_Rel (k + 2) (nI c, a, g, s) (nI c, a, s) := ⟨c, a, g, s, rfl, rfl, hc, hg, hx⟩
  obtain ⟨b, bX, bY⟩ := rg_isSet v1
  unfold wpX_allowed
  dsimp only
  refine bX _ ?_
  cases b with
  | false =>
    refine br_t rfl ?_
    unfold wpY_allowed
    dsimp only
    exact bY _ _ _ _ (br_t rfl ⟨rfl, hr⟩)
  | true =>
    refine br_f (by decide) (rg_xgww (p := fun n => rg_gd s (a n) c) (fun n => rg_gd s (a n) c && rg_st (a n) v1) hg (fun _ _ => rfl) _ ?_)
    by_cases hz : nI (rg_cnt (fun n => rg_gd s (a n) c && rg_st (a n) v1) 720) ≤ 0
    · refine br_t hz ?_
      unfold wpY_allowed
      dsimp only
      refine bY _ _ _ _ (br_f (by decide) (rg_ycfw hc _ (fun _ _ => rfl) _ ?_))
      exact br_t hz ⟨rfl, hr⟩
    · refine br_f hz ?_
      unfold wpY_allowed
      dsimp only
      refine bY _ _ _ _ (br_f (by decide) (rg_ycfw hc _ (fun _ _ => rfl) _ ?_))
      exact br_f hz ⟨rfl, hr⟩

theorem i_vc_together {k : Nat} {u : SX} {v : SY} (I : i_Rel k u v) (hk : k + 2 ≤ 1024) (v1 : Int32) : wpX_together (fun r => wpY_together (fun r' => r' = r ∧ i_Rel (k + 2) u v) v v1) u v1 := by
  obtain ⟨c, a, g, s, rfl, rfl, hc, hg, hx⟩ := I
  have hr : i_Rel (k + 2) (nI c, a, g, s) (nI c, a, s) := ⟨c, a, g, s, rfl, rfl, hc, hg, hx⟩
  obtain ⟨b, bX, bY⟩ := rg_isSet v1
  unfold wpX_together
  dsimp only
  refine bX _ ?_
  cases b with
  | false =>
    refine br_t rfl ?_
    unfold wpY_together
    dsimp only
    exact bY _ _ _ _ (br_t rfl ⟨rfl, hr⟩)
  | true =>
    have hall := (rg_cnt_all (p := fun n => rg_gd s (a n) c) (q := fun n => rg_st (a n) v1) (k := 720)).1
    by_cases hz : ∀ n, n < 720 → rg_gd s (a n) c = true → rg_st (a n) v1 = true
    · refine br_f (by decide) (rg_xallw (p := fun n => rg_gd s (a n) c) true hg ⟨fun _ => hz, fun _ => rfl⟩ _ ?_)
      refine br_f (by decide) ?_
      unfold wpY_together
      dsimp only
      refine bY _ _ _ _ (br_f (by decide) (rg_ycfw hc (fun n => rg_gd s (a n) c && rg_st (a n) v1) (fun _ _ => rfl) _ ?_))
      refine rg_ycfw hc (fun n => rg_gd s (a n) c) (rg_all0 s a c) _ ?_
      exact br_t (congrArg nI (hall.mpr hz)) ⟨rfl, hr⟩
    · refine br_f (by decide) (rg_xallw (p := fun n => rg_gd s (a n) c) false hg ⟨fun z => absurd z (by decide), fun z => absurd z hz⟩ _ ?_)
      refine br_t rfl ?_
      unfold wpY_together
      dsimp only
      refine bY _ _ _ _ (br_f (by decide) (rg_ycfw hc (fun n => rg_gd s (a n) c && rg_st (a n) v1) (fun _ _ => rfl) _ ?_))
      refine rg_ycfw hc (fun n => rg_gd s (a n) c) (rg_all0 s a c) _ ?_
      exact br_f (fun z => hz (hall.mp ((nI_eq (rg_c31 _) (rg_c31 _)).mp z))) ⟨rfl, hr⟩

theorem i_vc_countWith {k : Nat} {u : SX} {v : SY} (I : i_Rel k u v) (hk : k + 2 ≤ 1024) (v1 : Int32) : wpX_countWith (fun r => wpY_countWith (fun r' => r' = r ∧ i_Rel (k + 2) u v) v v1) u v1 := by
  obtain ⟨c, a, g, s, rfl, rfl, hc, hg, hx⟩ := I
  have hr : i_Rel (k + 2) (nI c, a, g, s) (nI c, a, s) := ⟨c, a, g, s, rfl, rfl, hc, hg, hx⟩
  obtain ⟨b, bX, bY⟩ := rg_isSet v1
  unfold wpX_countWith
  dsimp only
  refine bX _ ?_
  cases b with
  | false =>
    refine br_t rfl ?_
    unfold wpY_countWith
    dsimp only
    exact bY _ _ _ _ (br_t rfl ⟨rfl, hr⟩)
  | true =>
    refine br_f (by decide) (rg_xgww (p := fun n => rg_gd s (a n) c) (fun n => rg_gd s (a n) c && rg_st (a n) v1) hg (fun _ _ => rfl) _ ?_)
    unfold wpY_countWith
    dsimp only
    refine bY _ _ _ _ (br_f (by decide) (rg_ycfw hc (fun n => rg_gd s (a n) c && rg_st (a n) v1) (fun _ _ => rfl) _ ?_))
    exact ⟨rfl, hr⟩

theorem i_vc_places {k : Nat} {u : SX} {v : SY} (I : i_Rel k u v) (hk : k + 2 ≤ 1024) (v1 : Int32) : wpX_places (fun r => wpY_places (fun r' => r' = r ∧ i_Rel (k + 2) u v) v v1) u v1 := by
  obtain ⟨c, a, g, s, rfl, rfl, hc, hg, hx⟩ := I
  have hr : i_Rel (k + 2) (nI c, a, g, s) (nI c, a, s) := ⟨c, a, g, s, rfl, rfl, hc, hg, hx⟩
  rcases rg_thing v1 with ⟨t, ht, rfl⟩ | ⟨hX, hb⟩
  · unfold wpX_places
    dsimp only
    refine rg_xthing ht _ ?_
    refine br_f (by decide) ⟨721, rg_xplaces (nI t) (nI c) a g s (fun n => rg_gd s (a n) c) hg (fun n => rg_pl (rg_bit (a n) ((1 : Int32) <<< (nI t &&& 31))) 6) (fun _ => rfl) _ ?_ 720 0 rfl⟩
    unfold wpY_places
    dsimp only
    exact rg_ok ht ⟨721, rg_yplaces ht hc a s (fun n => rg_pl (rg_bit (a n) ((1 : Int32) <<< (nI t &&& 31))) 6) (fun _ => rfl) (fun n => rg_gd s (a n) c) (fun _ => rfl) _ ⟨rfl, hr⟩ 720 0 rfl⟩
  · unfold wpX_places
    dsimp only
    refine hX _ ?_
    refine br_t rfl ?_
    unfold wpY_places
    dsimp only
    exact rg_bad hb ⟨rfl, hr⟩

theorem i_vc_neighbours {k : Nat} {u : SX} {v : SY} (I : i_Rel k u v) (hk : k + 2 ≤ 1024) (v1 : Int32) : wpX_neighbours (fun r => wpY_neighbours (fun r' => r' = r ∧ i_Rel (k + 2) u v) v v1) u v1 := by
  obtain ⟨c, a, g, s, rfl, rfl, hc, hg, hx⟩ := I
  have hr : i_Rel (k + 2) (nI c, a, g, s) (nI c, a, s) := ⟨c, a, g, s, rfl, rfl, hc, hg, hx⟩
  rcases rg_thing v1 with ⟨t, ht, rfl⟩ | ⟨hX, hb⟩
  · unfold wpX_neighbours
    dsimp only
    refine rg_xthing ht _ ?_
    refine br_f (by decide) ⟨721, rg_xneigh (nI t) (nI c) a g s (fun n => rg_gd s (a n) c) hg (fun n => rg_nx (a n) (nI t) 5) (fun _ => rfl) _ ?_ 720 0 rfl⟩
    unfold wpY_neighbours
    dsimp only
    exact rg_ok ht ⟨721, rg_yneigh (nI t) hc a s (fun n => rg_nx (a n) (nI t) 5) (fun _ => rfl) (fun n => rg_gd s (a n) c) (fun _ => rfl) _ ⟨rfl, hr⟩ 720 0 rfl⟩
  · unfold wpX_neighbours
    dsimp only
    refine hX _ ?_
    refine br_t rfl ?_
    unfold wpY_neighbours
    dsimp only
    exact rg_bad hb ⟨rfl, hr⟩

theorem i_vc_groups {k : Nat} {u : SX} {v : SY} (I : i_Rel k u v) (hk : k + 2 ≤ 1024) : wpX_groups (fun r => wpY_groups (fun r' => r' = r ∧ i_Rel (k + 2) u v) v) u := by
  obtain ⟨c, a, g, s, rfl, rfl, hc, hg, hx⟩ := I
  have hr : i_Rel (k + 2) (nI c, a, g, s) (nI c, a, s) := ⟨c, a, g, s, rfl, rfl, hc, hg, hx⟩
  have hX : ∀ w : Nat, decide (rg_cnt (fun n => rg_gd s (a n) c && rg_st (a n) (nI w)) 720 = rg_cnt (fun n => rg_gd s (a n) c) 720) = true ↔ ∀ n, n < 720 → rg_gd s (a n) c = true → rg_st (a n) (nI w) = true :=
    fun w => decide_eq_true_iff.trans (rg_cnt_all (p := fun n => rg_gd s (a n) c) (q := fun n => rg_st (a n) (nI w)) (k := 720)).1
  unfold wpX_groups
  dsimp only
  refine ⟨65, rg_xgroups (nI c) a g s (fun n => rg_gd s (a n) c) hg (fun w => decide (rg_cnt (fun n => rg_gd s (a n) c && rg_st (a n) (nI w)) 720 = rg_cnt (fun n => rg_gd s (a n) c) 720)) hX _ ?_ 64 0 rfl⟩
  unfold wpY_groups
  dsimp only
  refine rg_ycfw hc (fun n => rg_gd s (a n) c) (rg_all0 s a c) _ ?_
  exact ⟨65, rg_ygroups hc a s (rg_cnt (fun n => rg_gd s (a n) c) 720) (fun w => decide (rg_cnt (fun n => rg_gd s (a n) c && rg_st (a n) (nI w)) 720 = rg_cnt (fun n => rg_gd s (a n) c) 720))
    (fun w _ => (nI_eq (rg_c31 _) (rg_c31 _)).trans decide_eq_true_iff.symm) _ ⟨rfl, hr⟩ 64 0 rfl⟩
