/-! The order of a rank: one number for both sides; then both tables. -/

theorem rg_mem (s : Int32) : ∀ d j : Nat, j + d = 6 → ∀ l : Int32, ∃ r : Int32,
    (∀ post : Int32 → Prop, post r → wX_memberOf_4 post s (d + 1) l (nI j)) ∧
    (∀ (post : Int32 → Prop) (c : Int32) (a b : Nat → Int32), post r → wY_nth_5 post s c a b (d + 1) l (nI j)) := by
  intro d
  induction d with
  | zero =>
    intro j hj l
    have e : j = 6 := by omega
    subst e
    exact ⟨0, fun _ hp => br_t rg_y6 hp, fun _ _ _ _ hp => br_t rg_y6 hp⟩
  | succ d ih =>
    intro j hj l
    have h : ¬ (6 : Int32) ≤ nI j := rg_n6 (by omega)
    by_cases hb : ((s >>> (nI j &&& 31)) &&& 1) = 1
    · by_cases hl : l = 0
      · exact ⟨nI j, fun _ hp => br_f h (br_t hb (br_t hl hp)), fun _ _ _ _ hp => br_f h (br_t hb (br_t hl hp))⟩
      · obtain ⟨r, hX, hY⟩ := ih (j + 1) (by omega) (l + (-1))
        exact ⟨r, fun post hp => br_f h (br_t hb (br_f hl (nm_e (nm_r (nI_1 j) (hX post hp))))),
          fun post c a b hp => br_f h (br_t hb (br_f hl (nm_e (nm_r (nI_1 j) (hY post c a b hp)))))⟩
    · obtain ⟨r, hX, hY⟩ := ih (j + 1) (by omega) l
      exact ⟨r, fun post hp => br_f h (br_f hb (nm_r (nI_1 j) (hX post hp))),
        fun post c a b hp => br_f h (br_f hb (nm_r (nI_1 j) (hY post c a b hp)))⟩

theorem rg_nth (s l : Int32) : ∃ r : Int32,
    (∀ post : Int32 → Prop, post r → wpX_memberOf post s l) ∧
    (∀ (post : Int32 → Prop) (c : Int32) (a b : Nat → Int32), post r → wpY_nth post (c, a, b) s l) := by
  obtain ⟨r, hX, hY⟩ := rg_mem s 6 0 rfl l
  exact ⟨r, fun post hp => ⟨7, hX post hp⟩, fun post c a b hp => ⟨7, hY post c a b hp⟩⟩

/-- from place i on, with m places left and the block U, both sides give one order -/
def rg_OO (m i : Nat) (U : Int32) : Prop := ∀ o l r : Int32, ∃ q : Int32,
    (∀ post : Int32 → Prop, post q → wX_orderOfRank_15 post (m + 1) o l r U (nI i)) ∧
    (∀ (post : Int32 → Prop) (c : Int32) (a b : Nat → Int32), post q → wY_orderNumber_16 post c a b (m + 1) r U l o (nI i))

theorem rg_o0 (U : Int32) : rg_OO 0 6 U := fun o _ _ => ⟨o, fun _ hp => br_t rg_y6 hp, fun _ _ _ _ hp => br_t rg_y6 hp⟩

theorem rg_ostep {m i : Nat} {U V : Int32} (hi : i < 6) (e : U / (6 - nI i) = V) (h0 : ¬ (6 - nI i) = 0) (hV : ¬ V = 0) (ih : rg_OO m (i + 1) V) : rg_OO (m + 1) i U := by
  intro o l r
  have h : ¬ (6 : Int32) ≤ nI i := rg_n6 hi
  obtain ⟨t, tX, tY⟩ := rg_nth l (r / V)
  obtain ⟨q, qX, qY⟩ := ih (o ||| (t <<< ((3 * nI i) &&& 31))) (l &&& (((1 : Int32) <<< (t &&& 31)) ^^^ (-1))) (r - r / V * V)
  refine ⟨q, fun post hp => ?_, fun post c a b hp => ?_⟩
  · refine br_f h ⟨h0, nm_r e ⟨hV, tX _ ⟨hV, ?_⟩⟩⟩
    exact nm_e (nm_e (nm_e (nm_r (nI_1 i) (qX post hp))))
  · refine br_f h ⟨h0, nm_r e ⟨hV, tY _ c a b ⟨hV, ?_⟩⟩⟩
    exact nm_e (nm_e (nm_e (nm_r (nI_1 i) (qY post c a b hp))))

theorem rg_o5 : rg_OO 1 5 1 := rg_ostep (i := 5) (V := 1) (by decide) (by decide +kernel) (by decide +kernel) (by decide) (rg_o0 1)
theorem rg_o4 : rg_OO 2 4 2 := rg_ostep (i := 4) (V := 1) (by decide) (by decide +kernel) (by decide +kernel) (by decide) rg_o5
theorem rg_o3 : rg_OO 3 3 6 := rg_ostep (i := 3) (V := 2) (by decide) (by decide +kernel) (by decide +kernel) (by decide) rg_o4
theorem rg_o2 : rg_OO 4 2 24 := rg_ostep (i := 2) (V := 6) (by decide) (by decide +kernel) (by decide +kernel) (by decide) rg_o3
theorem rg_o1 : rg_OO 5 1 120 := rg_ostep (i := 1) (V := 24) (by decide) (by decide +kernel) (by decide +kernel) (by decide) rg_o2
theorem rg_oz : rg_OO 6 0 720 := rg_ostep (i := 0) (V := 120) (by decide) (by decide +kernel) (by decide +kernel) (by decide) rg_o1

theorem rg_order (p : Int32) : ∃ q : Int32,
    (∀ post : Int32 → Prop, post q → wpX_orderOfRank post p) ∧
    (∀ (post : Int32 → Prop) (c : Int32) (a b : Nat → Int32), post q → wpY_orderNumber post (c, a, b) p) := by
  obtain ⟨q, hX, hY⟩ := rg_oz 0 63 p
  exact ⟨q, fun post hp => ⟨7, hX post hp⟩, fun post c a b hp => ⟨7, hY post c a b hp⟩⟩

/-- the table of the first k orders -/
def rg_tab (f : Nat → Int32) : Nat → Nat → Int32
  | 0 => fun _ => 0
  | k + 1 => upd (rg_tab f k) k (f k)

/-- the first k marks -/
def rg_ones : Nat → Nat → Int32
  | 0 => fun _ => 0
  | k + 1 => upd (rg_ones k) k (vp_nar .boolean 1)

theorem rg_ones_lt : ∀ k n : Nat, n < k → rg_ones k n = 1 := by
  intro k
  induction k with
  | zero => intro n h; exact absurd h (Nat.not_lt_zero n)
  | succ k ih =>
    intro n h
    show upd (rg_ones k) k (vp_nar .boolean 1) n = 1
    by_cases e : n = k
    · rw [e, pk_us]; exact rg_nar true
    · rw [pk_un e]; exact ih n (by omega)

theorem rg_xinit (f : Nat → Int32) (hf : ∀ n : Nat, ∀ post : Int32 → Prop, post (f n) → wpX_orderOfRank post (nI n))
    (post : SX → Prop) (hp : post (0, rg_tab f 720, rg_ones 720, fun _ => 0)) :
    ∀ d j : Nat, j + d = 720 → wX_init_37 post 0 (d + 1) (nI j) (rg_tab f j) (rg_ones j) (fun _ => 0) := by
  intro d
  induction d with
  | zero =>
    intro j hj
    have e : j = 720 := by omega
    subst e
    exact br_t rg_y720 hp
  | succ d ih =>
    intro j hj
    have hl : j < 720 := by omega
    have e1 : upd (rg_tab f j) (nI j).toNatClampNeg (f j) = rg_tab f (j + 1) := by rw [rg_cl hl]; rfl
    have e2 : upd (rg_ones j) (nI j).toNatClampNeg (vp_nar .boolean 1) = rg_ones (j + 1) := by rw [rg_cl hl]; rfl
    have ih' := ih (j + 1) (by omega)
    refine br_f (rg_n720 hl) (hf j _ ⟨rg_in hl, ?_⟩)
    exact nm_r e1 ⟨rg_in hl, nm_r e2 (nm_r (nI_1 j) ih')⟩

theorem rg_yinit (f : Nat → Int32) (hf : ∀ n : Nat, ∀ (post : Int32 → Prop) (c : Int32) (a b : Nat → Int32), post (f n) → wpY_orderNumber post (c, a, b) (nI n))
    (post : SY → Prop) (hp : post (0, rg_tab f 720, fun _ => 0)) :
    ∀ d j : Nat, j + d = 720 → wY_init_23 post 0 (d + 1) (nI j) (rg_tab f j) (fun _ => 0) := by
  intro d
  induction d with
  | zero =>
    intro j hj
    have e : j = 720 := by omega
    subst e
    exact br_t rg_y720 hp
  | succ d ih =>
    intro j hj
    have hl : j < 720 := by omega
    have e1 : upd (rg_tab f j) (nI j).toNatClampNeg (f j) = rg_tab f (j + 1) := by rw [rg_cl hl]; rfl
    have ih' := ih (j + 1) (by omega)
    refine br_f (rg_n720 hl) (hf j _ _ _ _ ⟨rg_in hl, ?_⟩)
    exact nm_r e1 (nm_r (nI_1 j) ih')
