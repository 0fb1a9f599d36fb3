section
/-! The mathematics of RowGroups, without any walk. The six pk_ rows are pasted from kit/rows. -/
theorem pk_us {f : Nat → Int32} {k : Nat} {x : Int32} : upd f k x k = x := if_pos rfl
theorem pk_un {f : Nat → Int32} {k j : Nat} {x : Int32} (h : j ≠ k) : upd f k x j = f j := if_neg h
theorem pk_m1 (n : Nat) : nI (n + 1) + (-1) = nI n := by
  rw [← nI_1, Int32.add_assoc, show (1 : Int32) + (-1) = 0 from rfl, Int32.add_zero]
theorem pk_and (x : Int32) {m : Int32} (k : Nat) (hm : m.toBitVec.toNat = 2 ^ k - 1) : x &&& m = nI (x.toBitVec.toNat % 2 ^ k) := by
  apply Int32.toBitVec_inj.mp
  apply BitVec.eq_of_toNat_eq
  rw [Int32.toBitVec_and, BitVec.toNat_and, hm, Nat.and_two_pow_sub_one_eq_mod]
  show _ = (BitVec.ofNat 32 _).toNat
  rw [BitVec.toNat_ofNat]
  exact (Nat.mod_eq_of_lt (Nat.lt_of_le_of_lt (Nat.mod_le _ _) x.toBitVec.isLt)).symm
theorem pk_andE (x : Int32) {m : Int32} (k : Nat) (hm : m.toBitVec.toNat = 2 ^ k - 1) : ∃ j : Nat, j < 2 ^ k ∧ x &&& m = nI j := ⟨_, Nat.mod_lt _ (Nat.two_pow_pos k), pk_and x k hm⟩
theorem pk_least (P : Nat → Prop) (h : ∃ k, P k) : ∃ k, P k ∧ ∀ j, j < k → ¬ P j := by
  obtain ⟨k, hk⟩ := h
  induction k using Nat.strongRecOn with
  | ind k ih =>
    by_cases e : ∃ j, j < k ∧ P j
    · obtain ⟨j, hj, pj⟩ := e
      exact ih j hj pj
    · exact ⟨k, hk, fun j hj pj => e ⟨j, hj, pj⟩⟩

/-- the thing at place i of a packed order -/
def rg_at (o i : Int32) : Int32 := (o >>> ((3 * i) &&& 31)) &&& 7

/-- whether the thing at place i is one of the set -/
def rg_bit (o s : Int32) (i : Nat) : Bool := decide (((s >>> (rg_at o (nI i) &&& 31)) &&& 1) = 1)

/-- the places below k that are marked, as a set -/
def rg_pl (b : Nat → Bool) : Nat → Int32
  | 0 => 0
  | k + 1 => if b k = true then rg_pl b k ||| (1 <<< (nI k &&& 31)) else rg_pl b k

/-- the mark ahead of place k -/
def rg_bf (b : Nat → Bool) : Nat → Bool
  | 0 => false
  | k + 1 => b k

/-- how many runs of marks begin below k -/
def rg_bg (b : Nat → Bool) : Nat → Nat
  | 0 => 0
  | k + 1 => if b k = true ∧ rg_bf b k = false then rg_bg b k + 1 else rg_bg b k

theorem rg_pl_s (b : Nat → Bool) (k : Nat) : rg_pl b (k + 1) = if b k = true then rg_pl b k ||| (1 <<< (nI k &&& 31)) else rg_pl b k := rfl

theorem rg_bg_s (b : Nat → Bool) (k : Nat) : rg_bg b (k + 1) = if b k = true ∧ rg_bf b k = false then rg_bg b k + 1 else rg_bg b k := rfl

theorem rg_bg_le (b : Nat → Bool) : ∀ k, rg_bg b k ≤ k := by
  intro k
  induction k with
  | zero => exact Nat.le_refl 0
  | succ k ih =>
    simp only [rg_bg]
    split
    · omega
    · omega

/-- the things of the set stand together -/
def rg_st (o s : Int32) : Bool := decide (rg_bg (rg_bit o s) 6 < 2)

/-- adding the lowest mark clears all marks just when they are one run -/
theorem rg_carry (b : Nat → Bool) : ((rg_pl b 6 + (rg_pl b 6 &&& (-rg_pl b 6))) &&& rg_pl b 6) = 0 ↔ rg_bg b 6 < 2 := by
  simp only [rg_pl, rg_bg, rg_bf]
  cases b 0 <;> cases b 1 <;> cases b 2 <;> cases b 3 <;> cases b 4 <;> cases b 5 <;> decide +kernel

/-- the empty set stands together -/
theorem rg_bit0 (o : Int32) (i : Nat) : rg_bit o 0 i = false := by
  unfold rg_bit
  rw [Int32.zero_shiftRight]
  decide

theorem rg_st0 (o : Int32) : rg_st o 0 = true := by
  have e : rg_bit o 0 = fun _ => false := funext (rg_bit0 o)
  unfold rg_st
  rw [e]
  decide

/-- all demands below c stand -/
def rg_gd (s : Nat → Int32) (o : Int32) : Nat → Bool
  | 0 => true
  | c + 1 => rg_gd s o c && rg_st o (s c)

theorem rg_gd_s (s : Nat → Int32) (o : Int32) (c : Nat) : rg_gd s o (c + 1) = (rg_gd s o c && rg_st o (s c)) := rfl

theorem rg_gd_iff (s : Nat → Int32) (o : Int32) : ∀ c, rg_gd s o c = true ↔ ∀ d, d < c → rg_st o (s d) = true := by
  intro c
  induction c with
  | zero => exact ⟨fun _ d h => absurd h (Nat.not_lt_zero d), fun _ => rfl⟩
  | succ c ih =>
    simp only [rg_gd, Bool.and_eq_true]
    constructor
    · intro h d hd
      rcases Nat.lt_or_eq_of_le (Nat.le_of_lt_succ hd) with h1 | h1
      · exact ih.mp h.1 d h1
      · rw [h1]; exact h.2
    · intro h
      exact ⟨ih.mpr fun d hd => h d (Nat.lt_succ_of_lt hd), h c (Nat.lt_succ_self c)⟩

theorem rg_gd_congr {s s' : Nat → Int32} {o : Int32} {c : Nat} (h : ∀ d, d < c → s d = s' d) : rg_gd s o c = rg_gd s' o c := by
  induction c with
  | zero => rfl
  | succ c ih =>
    simp only [rg_gd]
    rw [ih fun d hd => h d (Nat.lt_succ_of_lt hd), h c (Nat.lt_succ_self c)]

/-- a mark as an int -/
def rg_B (b : Bool) : Int32 := if b = true then 1 else 0

theorem rg_B1 {b : Bool} (h : ¬ rg_B b = 0) : b = true := by
  cases b
  · exact absurd rfl h
  · rfl

theorem rg_B0 {b : Bool} (h : rg_B b = 0) : b = false := by
  cases b
  · rfl
  · exact absurd h (by decide)

/-- how many below k -/
def rg_cnt (p : Nat → Bool) : Nat → Nat
  | 0 => 0
  | k + 1 => if p k = true then rg_cnt p k + 1 else rg_cnt p k

theorem rg_cnt_s (p : Nat → Bool) (k : Nat) : rg_cnt p (k + 1) = if p k = true then rg_cnt p k + 1 else rg_cnt p k := rfl

theorem rg_cnt_le (p : Nat → Bool) : ∀ k, rg_cnt p k ≤ k := by
  intro k
  induction k with
  | zero => exact Nat.le_refl 0
  | succ k ih =>
    simp only [rg_cnt]
    split
    · omega
    · omega

theorem rg_cnt_congr {p q : Nat → Bool} : ∀ {k : Nat}, (∀ n, n < k → p n = q n) → rg_cnt p k = rg_cnt q k := by
  intro k
  induction k with
  | zero => intro _; rfl
  | succ k ih =>
    intro h
    simp only [rg_cnt]
    rw [ih fun n hn => h n (Nat.lt_succ_of_lt hn), h k (Nat.lt_succ_self k)]

theorem rg_cnt_pos {p : Nat → Bool} : ∀ {k : Nat}, ¬ rg_cnt p k = 0 ↔ ∃ n, n < k ∧ p n = true := by
  intro k
  induction k with
  | zero => exact ⟨fun h => absurd rfl h, fun ⟨n, h, _⟩ => absurd h (Nat.not_lt_zero n)⟩
  | succ k ih =>
    simp only [rg_cnt]
    split
    · rename_i hp
      exact ⟨fun _ => ⟨k, Nat.lt_succ_self k, hp⟩, fun _ => Nat.succ_ne_zero _⟩
    · rename_i hp
      rw [ih]
      constructor
      · rintro ⟨n, hn, h⟩
        exact ⟨n, Nat.lt_succ_of_lt hn, h⟩
      · rintro ⟨n, hn, h⟩
        rcases Nat.lt_or_eq_of_le (Nat.le_of_lt_succ hn) with h1 | h1
        · exact ⟨n, h1, h⟩
        · rw [h1] at h; exact absurd h hp

theorem rg_two (P Q : Bool) (A B : Nat) (h : A ≤ B) : (((if (P && Q) = true then A + 1 else A) = if P = true then B + 1 else B) ↔ A = B ∧ (P = true → Q = true)) ∧ (if (P && Q) = true then A + 1 else A) ≤ if P = true then B + 1 else B := by
  cases P <;> cases Q <;> simp <;> omega

/-- the count with a second condition is the whole count just when the first gives the second -/
theorem rg_cnt_all {p q : Nat → Bool} : ∀ {k : Nat}, (rg_cnt (fun n => p n && q n) k = rg_cnt p k ↔ ∀ n, n < k → p n = true → q n = true) ∧ rg_cnt (fun n => p n && q n) k ≤ rg_cnt p k := by
  intro k
  induction k with
  | zero => exact ⟨⟨fun _ n h => absurd h (Nat.not_lt_zero n), fun _ => rfl⟩, Nat.le_refl 0⟩
  | succ k ih =>
    obtain ⟨ih1, ih2⟩ := ih
    have hs : (∀ n, n < k + 1 → p n = true → q n = true) ↔ (∀ n, n < k → p n = true → q n = true) ∧ (p k = true → q k = true) := by
      constructor
      · intro h
        exact ⟨fun n hn => h n (Nat.lt_succ_of_lt hn), h k (Nat.lt_succ_self k)⟩
      · rintro ⟨h1, h2⟩ n hn
        rcases Nat.lt_or_eq_of_le (Nat.le_of_lt_succ hn) with h | h
        · exact h1 n h
        · rw [h]; exact h2
    rw [hs, ← ih1]
    simp only [rg_cnt]
    exact rg_two (p k) (q k) _ _ ih2

/-- a thing 0 to 7 is in the set of t alone just when it is t -/
theorem rg_one : ∀ t : Nat, t < 6 → ∀ a : Nat, a < 8 → ((((1 : Int32) <<< (nI t &&& 31)) >>> (nI a &&& 31)) &&& 1 = 1 ↔ nI a = nI t) := by
  decide +kernel

theorem rg_at_nat (o i : Int32) : ∃ a : Nat, a < 8 ∧ rg_at o i = nI a := pk_andE (o >>> ((3 * i) &&& 31)) (m := 7) 3 (by decide)

theorem rg_bit1 (o : Int32) {t : Nat} (ht : t < 6) (i : Nat) : rg_bit o ((1 : Int32) <<< (nI t &&& 31)) i = decide (rg_at o (nI i) = nI t) := by
  obtain ⟨a, ha, e⟩ := rg_at_nat o (nI i)
  unfold rg_bit
  rw [e]
  exact decide_eq_decide.mpr (rg_one t ht a ha)

/-- or'ing place by place onto f is or'ing the whole onto f -/
def rg_plf (f : Int32) (b : Nat → Bool) : Nat → Int32
  | 0 => f
  | k + 1 => if b k = true then rg_plf f b k ||| (1 <<< (nI k &&& 31)) else rg_plf f b k

theorem rg_plf_s (f : Int32) (b : Nat → Bool) (k : Nat) : rg_plf f b (k + 1) = if b k = true then rg_plf f b k ||| (1 <<< (nI k &&& 31)) else rg_plf f b k := rfl

theorem rg_plf_eq (f : Int32) (b : Nat → Bool) : ∀ k, rg_plf f b k = f ||| rg_pl b k := by
  intro k
  induction k with
  | zero => simp [rg_plf, rg_pl]
  | succ k ih =>
    simp only [rg_plf, rg_pl]
    split
    · rw [ih, Int32.or_assoc]
    · exact ih

/-- a last one below k -/
theorem rg_last (P : Nat → Prop) : ∀ k, (∃ n, n < k ∧ P n) → ∃ n, n < k ∧ P n ∧ ∀ j, n < j → j < k → ¬ P j := by
  intro k
  induction k with
  | zero => rintro ⟨n, h, _⟩; exact absurd h (Nat.not_lt_zero n)
  | succ k ih =>
    rintro ⟨n, hn, h⟩
    by_cases hk : P k
    · exact ⟨k, Nat.lt_succ_self k, hk, fun j h1 h2 => absurd h2 (by omega)⟩
    · have hn' : n < k := by
        rcases Nat.lt_or_eq_of_le (Nat.le_of_lt_succ hn) with h1 | h1
        · exact h1
        · rw [h1] at h; exact absurd h hk
      obtain ⟨m, hm, hP, hl⟩ := ih ⟨n, hn', h⟩
      refine ⟨m, Nat.lt_succ_of_lt hm, hP, fun j h1 h2 => ?_⟩
      rcases Nat.lt_or_eq_of_le (Nat.le_of_lt_succ h2) with h3 | h3
      · exact hl j h1 h3
      · rw [h3]; exact hk

/-- or'ing together what the marked ones give -/
def rg_acc (p : Nat → Bool) (v : Nat → Int32) : Nat → Int32
  | 0 => 0
  | k + 1 => if p k = true then rg_acc p v k ||| v k else rg_acc p v k

theorem rg_acc_t {p : Nat → Bool} {k : Nat} (v : Nat → Int32) (h : p k = true) : rg_acc p v k ||| v k = rg_acc p v (k + 1) := (if_pos h).symm

theorem rg_acc_f {p : Nat → Bool} {k : Nat} (v : Nat → Int32) (h : p k = false) : rg_acc p v (k + 1) = rg_acc p v k := if_neg (by rw [h]; decide)

theorem rg_cnt_t {p : Nat → Bool} {k : Nat} (h : p k = true) : nI (rg_cnt p k) + 1 = nI (rg_cnt p (k + 1)) := by
  rw [rg_cnt_s, if_pos h, nI_1]

theorem rg_cnt_f {p : Nat → Bool} {k : Nat} (h : p k = false) : rg_cnt p (k + 1) = rg_cnt p k := if_neg (by rw [h]; decide)

/-- the things beside t, over the first k pairs of places -/
def rg_nx (o t : Int32) : Nat → Int32
  | 0 => 0
  | k + 1 =>
    if rg_at o (nI (k + 1)) = t then (if rg_at o (nI k) = t then rg_nx o t k ||| ((1 : Int32) <<< (rg_at o (nI (k + 1)) &&& 31)) else rg_nx o t k) ||| ((1 : Int32) <<< (rg_at o (nI k) &&& 31))
    else (if rg_at o (nI k) = t then rg_nx o t k ||| ((1 : Int32) <<< (rg_at o (nI (k + 1)) &&& 31)) else rg_nx o t k)

theorem rg_nx_tt {o t : Int32} {k : Nat} (h1 : rg_at o (nI k) = t) (h2 : rg_at o (nI (k + 1)) = t) : (rg_nx o t k ||| ((1 : Int32) <<< (rg_at o (nI (k + 1)) &&& 31))) ||| ((1 : Int32) <<< (rg_at o (nI k) &&& 31)) = rg_nx o t (k + 1) := by
  rw [rg_nx, if_pos h2, if_pos h1]

theorem rg_nx_tf {o t : Int32} {k : Nat} (h1 : rg_at o (nI k) = t) (h2 : ¬ rg_at o (nI (k + 1)) = t) : rg_nx o t k ||| ((1 : Int32) <<< (rg_at o (nI (k + 1)) &&& 31)) = rg_nx o t (k + 1) := by
  rw [rg_nx, if_neg h2, if_pos h1]

theorem rg_nx_ft {o t : Int32} {k : Nat} (h1 : ¬ rg_at o (nI k) = t) (h2 : rg_at o (nI (k + 1)) = t) : rg_nx o t k ||| ((1 : Int32) <<< (rg_at o (nI k) &&& 31)) = rg_nx o t (k + 1) := by
  rw [rg_nx, if_pos h2, if_neg h1]

theorem rg_nx_ff {o t : Int32} {k : Nat} (h1 : ¬ rg_at o (nI k) = t) (h2 : ¬ rg_at o (nI (k + 1)) = t) : rg_nx o t k = rg_nx o t (k + 1) := by
  rw [rg_nx, if_neg h2, if_neg h1]

/-- a mark goes into an array of marks as it is -/
theorem rg_nar (b : Bool) : vp_nar .boolean (rg_B b) = rg_B b := by
  cases b
  · decide
  · decide

theorem rg_cl {j : Nat} (h : j < 720) : (nI j).toNatClampNeg = j := nI_clamp (by omega)
theorem rg_in {j : Nat} (h : j < 720) : vp_in (nI j) 720 := vp_in_nI h (by decide)
theorem rg_n720 {j : Nat} (h : j < 720) : ¬ (720 : Int32) ≤ nI j := nI_ge (b := 720) h (by decide)
theorem rg_y720 : (720 : Int32) ≤ nI 720 := nI_le (a := 720) (b := 720) (Nat.le_refl _) (by decide)
theorem rg_n6 {j : Nat} (h : j < 6) : ¬ (6 : Int32) ≤ nI j := nI_ge (b := 6) h (by decide)
theorem rg_y6 : (6 : Int32) ≤ nI 6 := nI_le (a := 6) (b := 6) (Nat.le_refl _) (by decide)
end
section
/-! The order of a rank: one number for both sides; then both tables. -/

theorem rg_mem (s : Int32) : ∀ d j : Nat, j + d = 6 → ∀ l : Int32, ∃ r : Int32,
    (∀ post : Int32 → Prop, post r → wX_memberOf_4 post s (d + 1) l (nI j)) ∧
    (∀ (post : Int32 → Prop) (c : Int32) (a b : Nat → Int32), post r → wY_nth_5 post s c a b (d + 1) l (nI j)) := by
  intro d
  induction d with
  | zero =>
    intro j hj l
    have e : j = 6 := by omega
    subst e
    exact ⟨0, fun _ hp => br_t rg_y6 hp, fun _ _ _ _ hp => br_t rg_y6 hp⟩
  | succ d ih =>
    intro j hj l
    have h : ¬ (6 : Int32) ≤ nI j := rg_n6 (by omega)
    by_cases hb : ((s >>> (nI j &&& 31)) &&& 1) = 1
    · by_cases hl : l = 0
      · exact ⟨nI j, fun _ hp => br_f h (br_t hb (br_t hl hp)), fun _ _ _ _ hp => br_f h (br_t hb (br_t hl hp))⟩
      · obtain ⟨r, hX, hY⟩ := ih (j + 1) (by omega) (l + (-1))
        exact ⟨r, fun post hp => br_f h (br_t hb (br_f hl (nm_e (nm_r (nI_1 j) (hX post hp))))),
          fun post c a b hp => br_f h (br_t hb (br_f hl (nm_e (nm_r (nI_1 j) (hY post c a b hp)))))⟩
    · obtain ⟨r, hX, hY⟩ := ih (j + 1) (by omega) l
      exact ⟨r, fun post hp => br_f h (br_f hb (nm_r (nI_1 j) (hX post hp))),
        fun post c a b hp => br_f h (br_f hb (nm_r (nI_1 j) (hY post c a b hp)))⟩

theorem rg_nth (s l : Int32) : ∃ r : Int32,
    (∀ post : Int32 → Prop, post r → wpX_memberOf post s l) ∧
    (∀ (post : Int32 → Prop) (c : Int32) (a b : Nat → Int32), post r → wpY_nth post (c, a, b) s l) := by
  obtain ⟨r, hX, hY⟩ := rg_mem s 6 0 rfl l
  exact ⟨r, fun post hp => ⟨7, hX post hp⟩, fun post c a b hp => ⟨7, hY post c a b hp⟩⟩

/-- from place i on, with m places left and the block U, both sides give one order -/
def rg_OO (m i : Nat) (U : Int32) : Prop := ∀ o l r : Int32, ∃ q : Int32,
    (∀ post : Int32 → Prop, post q → wX_orderOfRank_15 post (m + 1) o l r U (nI i)) ∧
    (∀ (post : Int32 → Prop) (c : Int32) (a b : Nat → Int32), post q → wY_orderNumber_16 post c a b (m + 1) r U l o (nI i))

theorem rg_o0 (U : Int32) : rg_OO 0 6 U := fun o _ _ => ⟨o, fun _ hp => br_t rg_y6 hp, fun _ _ _ _ hp => br_t rg_y6 hp⟩

theorem rg_ostep {m i : Nat} {U V : Int32} (hi : i < 6) (e : U / (6 - nI i) = V) (h0 : ¬ (6 - nI i) = 0) (hV : ¬ V = 0) (ih : rg_OO m (i + 1) V) : rg_OO (m + 1) i U := by
  intro o l r
  have h : ¬ (6 : Int32) ≤ nI i := rg_n6 hi
  obtain ⟨t, tX, tY⟩ := rg_nth l (r / V)
  obtain ⟨q, qX, qY⟩ := ih (o ||| (t <<< ((3 * nI i) &&& 31))) (l &&& (((1 : Int32) <<< (t &&& 31)) ^^^ (-1))) (r - r / V * V)
  refine ⟨q, fun post hp => ?_, fun post c a b hp => ?_⟩
  · refine br_f h ⟨h0, nm_r e ⟨hV, tX _ ⟨hV, ?_⟩⟩⟩
    exact nm_e (nm_e (nm_e (nm_r (nI_1 i) (qX post hp))))
  · refine br_f h ⟨h0, nm_r e ⟨hV, tY _ c a b ⟨hV, ?_⟩⟩⟩
    exact nm_e (nm_e (nm_e (nm_r (nI_1 i) (qY post c a b hp))))

theorem rg_o5 : rg_OO 1 5 1 := rg_ostep (i := 5) (V := 1) (by decide) (by decide +kernel) (by decide +kernel) (by decide) (rg_o0 1)
theorem rg_o4 : rg_OO 2 4 2 := rg_ostep (i := 4) (V := 1) (by decide) (by decide +kernel) (by decide +kernel) (by decide) rg_o5
theorem rg_o3 : rg_OO 3 3 6 := rg_ostep (i := 3) (V := 2) (by decide) (by decide +kernel) (by decide +kernel) (by decide) rg_o4
theorem rg_o2 : rg_OO 4 2 24 := rg_ostep (i := 2) (V := 6) (by decide) (by decide +kernel) (by decide +kernel) (by decide) rg_o3
theorem rg_o1 : rg_OO 5 1 120 := rg_ostep (i := 1) (V := 24) (by decide) (by decide +kernel) (by decide +kernel) (by decide) rg_o2
theorem rg_oz : rg_OO 6 0 720 := rg_ostep (i := 0) (V := 120) (by decide) (by decide +kernel) (by decide +kernel) (by decide) rg_o1

theorem rg_order (p : Int32) : ∃ q : Int32,
    (∀ post : Int32 → Prop, post q → wpX_orderOfRank post p) ∧
    (∀ (post : Int32 → Prop) (c : Int32) (a b : Nat → Int32), post q → wpY_orderNumber post (c, a, b) p) := by
  obtain ⟨q, hX, hY⟩ := rg_oz 0 63 p
  exact ⟨q, fun post hp => ⟨7, hX post hp⟩, fun post c a b hp => ⟨7, hY post c a b hp⟩⟩

/-- the table of the first k orders -/
def rg_tab (f : Nat → Int32) : Nat → Nat → Int32
  | 0 => fun _ => 0
  | k + 1 => upd (rg_tab f k) k (f k)

/-- the first k marks -/
def rg_ones : Nat → Nat → Int32
  | 0 => fun _ => 0
  | k + 1 => upd (rg_ones k) k (vp_nar .boolean 1)

theorem rg_ones_lt : ∀ k n : Nat, n < k → rg_ones k n = 1 := by
  intro k
  induction k with
  | zero => intro n h; exact absurd h (Nat.not_lt_zero n)
  | succ k ih =>
    intro n h
    show upd (rg_ones k) k (vp_nar .boolean 1) n = 1
    by_cases e : n = k
    · rw [e, pk_us]; exact rg_nar true
    · rw [pk_un e]; exact ih n (by omega)

theorem rg_xinit (f : Nat → Int32) (hf : ∀ n : Nat, ∀ post : Int32 → Prop, post (f n) → wpX_orderOfRank post (nI n))
    (post : SX → Prop) (hp : post (0, rg_tab f 720, rg_ones 720, fun _ => 0)) :
    ∀ d j : Nat, j + d = 720 → wX_init_37 post 0 (d + 1) (nI j) (rg_tab f j) (rg_ones j) (fun _ => 0) := by
  intro d
  induction d with
  | zero =>
    intro j hj
    have e : j = 720 := by omega
    subst e
    exact br_t rg_y720 hp
  | succ d ih =>
    intro j hj
    have hl : j < 720 := by omega
    have e1 : upd (rg_tab f j) (nI j).toNatClampNeg (f j) = rg_tab f (j + 1) := by rw [rg_cl hl]; rfl
    have e2 : upd (rg_ones j) (nI j).toNatClampNeg (vp_nar .boolean 1) = rg_ones (j + 1) := by rw [rg_cl hl]; rfl
    have ih' := ih (j + 1) (by omega)
    refine br_f (rg_n720 hl) (hf j _ ⟨rg_in hl, ?_⟩)
    exact nm_r e1 ⟨rg_in hl, nm_r e2 (nm_r (nI_1 j) ih')⟩

theorem rg_yinit (f : Nat → Int32) (hf : ∀ n : Nat, ∀ (post : Int32 → Prop) (c : Int32) (a b : Nat → Int32), post (f n) → wpY_orderNumber post (c, a, b) (nI n))
    (post : SY → Prop) (hp : post (0, rg_tab f 720, fun _ => 0)) :
    ∀ d j : Nat, j + d = 720 → wY_init_23 post 0 (d + 1) (nI j) (rg_tab f j) (fun _ => 0) := by
  intro d
  induction d with
  | zero =>
    intro j hj
    have e : j = 720 := by omega
    subst e
    exact br_t rg_y720 hp
  | succ d ih =>
    intro j hj
    have hl : j < 720 := by omega
    have e1 : upd (rg_tab f j) (nI j).toNatClampNeg (f j) = rg_tab f (j + 1) := by rw [rg_cl hl]; rfl
    have ih' := ih (j + 1) (by omega)
    refine br_f (rg_n720 hl) (hf j _ _ _ _ ⟨rg_in hl, ?_⟩)
    exact nm_r e1 (nm_r (nI_1 j) ih')
end
section
/-! Standing together and good orders, each side against the pure picture. -/

theorem rg_xpl (o s : Int32) (post : Int32 → Prop) (hp : post (rg_pl (rg_bit o s) 6)) :
    ∀ d j : Nat, j + d = 6 → wX_placesOf_4 post o s (d + 1) (rg_pl (rg_bit o s) j) (nI j) := by
  intro d
  induction d with
  | zero =>
    intro j hj
    have e : j = 6 := by omega
    subst e
    exact br_t rg_y6 hp
  | succ d ih =>
    intro j hj
    have h : ¬ (6 : Int32) ≤ nI j := rg_n6 (by omega)
    have ih' := ih (j + 1) (by omega)
    by_cases hb : ((s >>> (rg_at o (nI j) &&& 31)) &&& 1) = 1
    · have hb' : rg_bit o s j = true := decide_eq_true hb
      have e : rg_pl (rg_bit o s) j ||| ((1 : Int32) <<< (nI j &&& 31)) = rg_pl (rg_bit o s) (j + 1) := by rw [rg_pl_s, if_pos hb']
      exact br_f h (br_t hb (nm_r e (nm_r (nI_1 j) ih')))
    · have hb' : ¬ rg_bit o s j = true := by
        intro z
        exact hb (of_decide_eq_true z)
      have e : rg_pl (rg_bit o s) (j + 1) = rg_pl (rg_bit o s) j := by rw [rg_pl_s, if_neg hb']
      rw [e] at ih'
      exact br_f h (br_f hb (nm_r (nI_1 j) ih'))

theorem rg_xplw (o s : Int32) (post : Int32 → Prop) (hp : post (rg_pl (rg_bit o s) 6)) : wpX_placesOf post o s := ⟨7, rg_xpl o s post hp 6 0 rfl⟩

theorem rg_xst (o s : Int32) (post : Int32 → Prop) (hp : post (rg_B (rg_st o s))) : wpX_standsTogether post o s := by
  unfold wpX_standsTogether
  refine rg_xplw o s _ ?_
  refine nm_e ?_
  by_cases hc : ((rg_pl (rg_bit o s) 6 + (rg_pl (rg_bit o s) 6 &&& (-rg_pl (rg_bit o s) 6))) &&& rg_pl (rg_bit o s) 6) = 0
  · have hs : rg_st o s = true := decide_eq_true ((rg_carry _).mp hc)
    rw [hs] at hp
    exact br_t hc hp
  · have hs : rg_st o s = false := decide_eq_false (fun z => hc ((rg_carry _).mpr z))
    rw [hs] at hp
    exact br_f hc hp

theorem rg_yat {c : Int32} {a t : Nat → Int32} {n : Nat} (hn : n < 720) {i i' : Int32} (e : i = i') {post : Int32 → Prop} (hp : post (rg_at (a n) i')) : wpY_at post (c, a, t) (nI n) i := by
  subst e
  unfold wpY_at
  dsimp only
  rw [rg_cl hn]
  exact ⟨rg_in hn, hp⟩

theorem rg_yst (c : Int32) (a t : Nat → Int32) {n : Nat} (hn : n < 720) (s : Int32) (post : Int32 → Prop) (hp : post (rg_B (rg_st (a n) s))) :
    ∀ d j : Nat, j + d = 6 → wY_stands_8 post (nI n) s c a t (d + 1) (nI (rg_bg (rg_bit (a n) s) j)) (rg_B (rg_bf (rg_bit (a n) s) j)) (nI j) := by
  intro d
  induction d with
  | zero =>
    intro j hj
    have e : j = 6 := by omega
    subst e
    refine br_t rg_y6 ?_
    have hl := rg_bg_le (rg_bit (a n) s) 6
    by_cases hb : rg_bg (rg_bit (a n) s) 6 < 2
    · have hs : rg_st (a n) s = true := decide_eq_true hb
      rw [hs] at hp
      exact br_f (nI_ge (b := 2) hb (by decide)) hp
    · have hs : rg_st (a n) s = false := decide_eq_false hb
      rw [hs] at hp
      exact br_t (nI_le (a := 2) (by omega) (by omega)) hp
  | succ d ih =>
    intro j hj
    have h : ¬ (6 : Int32) ≤ nI j := rg_n6 (by omega)
    have ih' := ih (j + 1) (by omega)
    have eb : rg_bf (rg_bit (a n) s) (j + 1) = rg_bit (a n) s j := rfl
    rw [eb] at ih'
    refine br_f h (rg_yat hn rfl ?_)
    by_cases hb : ((s >>> (rg_at (a n) (nI j) &&& 31)) &&& 1) = 1
    · have hb' : rg_bit (a n) s j = true := decide_eq_true hb
      rw [hb'] at ih'
      have hz : ¬ (1 : Int32) = 0 := by decide
      refine br_t hb (br_f hz ?_)
      cases hf : rg_bf (rg_bit (a n) s) j with
      | false =>
        have e : nI (rg_bg (rg_bit (a n) s) j) + 1 = nI (rg_bg (rg_bit (a n) s) (j + 1)) := by
          rw [rg_bg_s, if_pos ⟨hb', hf⟩, nI_1]
        exact br_t rfl (nm_r e (nm_r (nI_1 j) ih'))
      | true =>
        have e : rg_bg (rg_bit (a n) s) (j + 1) = rg_bg (rg_bit (a n) s) j := by
          rw [rg_bg_s, if_neg (fun z => by rw [hf] at z; exact absurd z.2 (by decide))]
        rw [e] at ih'
        exact br_f (by decide) (nm_r (nI_1 j) ih')
    · have hb' : rg_bit (a n) s j = false := decide_eq_false hb
      have e : rg_bg (rg_bit (a n) s) (j + 1) = rg_bg (rg_bit (a n) s) j := by
        rw [rg_bg_s, if_neg (fun z => by rw [hb'] at z; exact absurd z.1 (by decide))]
      rw [hb', e] at ih'
      exact br_f hb (br_t rfl (nm_r (nI_1 j) ih'))

theorem rg_ystw {c : Int32} {a t : Nat → Int32} {n : Nat} (hn : n < 720) (s : Int32) (post : Int32 → Prop) (hp : post (rg_B (rg_st (a n) s))) : wpY_stands post (c, a, t) (nI n) s :=
  ⟨7, rg_yst c a t hn s post hp 6 0 rfl⟩

theorem rg_gd_no {s : Nat → Int32} {o : Int32} {c j : Nat} (hj : j < c) (hs : rg_st o (s j) = false) : rg_gd s o c = false := by
  cases hg : rg_gd s o c with
  | false => rfl
  | true =>
    have h := (rg_gd_iff s o c).mp hg j hj
    rw [hs] at h
    exact absurd h (by decide)

theorem rg_xmeet (o : Int32) {c : Nat} (hc : c ≤ 8) (a g s : Nat → Int32) (post : Int32 → Prop) (hp : post (rg_B (rg_gd s o c))) :
    ∀ d j : Nat, j + d = c → rg_gd s o j = true → wX_meetsAllDemands_2 post o (nI c) a g s (d + 1) (nI j) := by
  intro d
  induction d with
  | zero =>
    intro j hj hg
    have e : j = c := by omega
    subst e
    rw [hg] at hp
    exact br_t (nI_le (Nat.le_refl j) (by omega)) hp
  | succ d ih =>
    intro j hj hg
    have hcl : (nI j).toNatClampNeg = j := nI_clamp (by omega)
    refine br_f (nI_ge (by omega) (by omega)) ⟨vp_in_nI (by omega) (by decide), ?_⟩
    rw [hcl]
    refine rg_xst o (s j) _ ?_
    cases hs : rg_st o (s j) with
    | false =>
      rw [rg_gd_no (by omega) hs] at hp
      exact br_t rfl hp
    | true =>
      have ih' := ih (j + 1) (by omega) (by rw [rg_gd_s, hg, hs]; rfl)
      exact br_f (by decide) (nm_r (nI_1 j) ih')

theorem rg_xmeetw (o : Int32) {c : Nat} (hc : c ≤ 8) (a g s : Nat → Int32) (post : Int32 → Prop) (hp : post (rg_B (rg_gd s o c))) : wpX_meetsAllDemands post (nI c, a, g, s) o :=
  ⟨c + 1, rg_xmeet o hc a g s post hp c 0 (Nat.zero_add c) rfl⟩

theorem rg_ygood {n : Nat} (hn : n < 720) {c : Nat} (hc : c ≤ 8) (a s : Nat → Int32) (post : Int32 → Prop) (hp : post (rg_B (rg_gd s (a n) c))) :
    ∀ d j : Nat, j + d = c → rg_gd s (a n) j = true → wY_isGood_2 post (nI n) (nI c) a s (d + 1) (nI j) := by
  intro d
  induction d with
  | zero =>
    intro j hj hg
    have e : j = c := by omega
    subst e
    rw [hg] at hp
    exact br_t (nI_le (Nat.le_refl j) (by omega)) hp
  | succ d ih =>
    intro j hj hg
    have hcl : (nI j).toNatClampNeg = j := nI_clamp (by omega)
    refine br_f (nI_ge (by omega) (by omega)) ⟨vp_in_nI (by omega) (by decide), ?_⟩
    rw [hcl]
    refine rg_ystw hn (s j) _ ?_
    cases hs : rg_st (a n) (s j) with
    | false =>
      rw [rg_gd_no (by omega) hs] at hp
      exact br_t rfl hp
    | true =>
      have ih' := ih (j + 1) (by omega) (by rw [rg_gd_s, hg, hs]; rfl)
      exact br_f (by decide) (nm_r (nI_1 j) ih')

theorem rg_ygoodw {n : Nat} (hn : n < 720) {c : Nat} (hc : c ≤ 8) {a s : Nat → Int32} (post : Int32 → Prop) (hp : post (rg_B (rg_gd s (a n) c))) : wpY_isGood post (nI c, a, s) (nI n) :=
  ⟨c + 1, rg_ygood hn hc a s post hp c 0 (Nat.zero_add c) rfl⟩

/-- the marks are made anew -/
theorem rg_xfind {c : Nat} (hc : c ≤ 8) (a s : Nat → Int32) (post : SX → Prop)
    (hp : ∀ g : Nat → Int32, (∀ n, n < 720 → g n = rg_B (rg_gd s (a n) c)) → post (nI c, a, g, s)) :
    ∀ (d j : Nat) (g : Nat → Int32), j + d = 720 → (∀ n, n < j → g n = rg_B (rg_gd s (a n) c)) → wX_findGoodOrders_2 post (nI c) (d + 1) (nI j) a g s := by
  intro d
  induction d with
  | zero =>
    intro j g hj hg
    have e : j = 720 := by omega
    subst e
    exact br_t rg_y720 (hp g hg)
  | succ d ih =>
    intro j g hj hg
    have hl : j < 720 := by omega
    have ih' := ih (j + 1) (upd g j (vp_nar .boolean (rg_B (rg_gd s (a j) c)))) (by omega) (by
      intro n hn
      by_cases e : n = j
      · rw [e, pk_us, rg_nar]
      · rw [pk_un e]; exact hg n (by omega))
    refine br_f (rg_n720 hl) ⟨rg_in hl, ?_⟩
    rw [rg_cl hl]
    refine rg_xmeetw (a j) hc a g s _ ⟨rg_in hl, ?_⟩
    exact nm_e (nm_r (nI_1 j) ih')

theorem rg_xfindw {c : Nat} (hc : c ≤ 8) (a g s : Nat → Int32) (post : SX → Prop)
    (hp : ∀ g : Nat → Int32, (∀ n, n < 720 → g n = rg_B (rg_gd s (a n) c)) → post (nI c, a, g, s)) : wpX_findGoodOrders post (nI c, a, g, s) :=
  ⟨721, rg_xfind hc a s post hp 720 0 g rfl (fun n h => absurd h (Nat.not_lt_zero n))⟩
end
section
/-! What the asking calls count, find and gather. p: the marks; Q: the marks of the good orders that a set stands together in. -/

theorem rg_xgw (w f : Int32) (a g s : Nat → Int32) (p Q : Nat → Bool) (hg : ∀ n, n < 720 → g n = rg_B (p n)) (hQ : ∀ n, n < 720 → Q n = (p n && rg_st (a n) w))
    (post : Int32 → Prop) (hp : post (nI (rg_cnt Q 720))) :
    ∀ d j : Nat, j + d = 720 → wX_goodOrdersWith_4 post w f a g s (d + 1) (nI (rg_cnt Q j)) (nI j) := by
  intro d
  induction d with
  | zero =>
    intro j hj
    have e : j = 720 := by omega
    subst e
    exact br_t rg_y720 hp
  | succ d ih =>
    intro j hj
    have hl : j < 720 := by omega
    have ih' := ih (j + 1) (by omega)
    have hq := hQ j hl
    refine br_f (rg_n720 hl) ⟨rg_in hl, ?_⟩
    rw [rg_cl hl, hg j hl]
    cases hpj : p j with
    | false =>
      rw [hpj, Bool.false_and] at hq
      rw [rg_cnt_f hq] at ih'
      exact br_t rfl (nm_r (nI_1 j) ih')
    | true =>
      refine br_f (by decide) ⟨rg_in hl, rg_xst (a j) w _ ?_⟩
      cases hs : rg_st (a j) w with
      | false =>
        rw [hpj, hs, Bool.true_and] at hq
        rw [rg_cnt_f hq] at ih'
        exact br_t rfl (nm_r (nI_1 j) ih')
      | true =>
        rw [hpj, hs, Bool.true_and] at hq
        exact br_f (by decide) (nm_r (rg_cnt_t hq) (nm_r (nI_1 j) ih'))

theorem rg_xgww {w f : Int32} {a g s : Nat → Int32} {p : Nat → Bool} (Q : Nat → Bool) (hg : ∀ n, n < 720 → g n = rg_B (p n)) (hQ : ∀ n, n < 720 → Q n = (p n && rg_st (a n) w))
    (post : Int32 → Prop) (hp : post (nI (rg_cnt Q 720))) : wpX_goodOrdersWith post (f, a, g, s) w :=
  ⟨721, rg_xgw w f a g s p Q hg hQ post hp 720 0 rfl⟩

theorem rg_ycf (w : Int32) {c : Nat} (hc : c ≤ 8) (a s : Nat → Int32) (Q : Nat → Bool) (hQ : ∀ n, n < 720 → Q n = (rg_gd s (a n) c && rg_st (a n) w))
    (post : Int32 → Prop) (hp : post (nI (rg_cnt Q 720))) :
    ∀ d j : Nat, j + d = 720 → wY_countFor_4 post w (nI c) a s (d + 1) (nI (rg_cnt Q j)) (nI j) := by
  intro d
  induction d with
  | zero =>
    intro j hj
    have e : j = 720 := by omega
    subst e
    exact br_t rg_y720 hp
  | succ d ih =>
    intro j hj
    have hl : j < 720 := by omega
    have ih' := ih (j + 1) (by omega)
    have hq := hQ j hl
    refine br_f (rg_n720 hl) (rg_ystw hl w _ ?_)
    cases hs : rg_st (a j) w with
    | false =>
      rw [hs, Bool.and_false] at hq
      rw [rg_cnt_f hq] at ih'
      exact br_t rfl (nm_r (nI_1 j) ih')
    | true =>
      rw [hs, Bool.and_true] at hq
      refine br_f (by decide) (rg_ygoodw hl hc _ ?_)
      cases hd : rg_gd s (a j) c with
      | false =>
        rw [hd] at hq
        rw [rg_cnt_f hq] at ih'
        exact br_t rfl (nm_r (nI_1 j) ih')
      | true =>
        rw [hd] at hq
        exact br_f (by decide) (nm_r (rg_cnt_t hq) (nm_r (nI_1 j) ih'))

theorem rg_ycfw {w : Int32} {c : Nat} (hc : c ≤ 8) {a s : Nat → Int32} (Q : Nat → Bool) (hQ : ∀ n, n < 720 → Q n = (rg_gd s (a n) c && rg_st (a n) w))
    (post : Int32 → Prop) (hp : post (nI (rg_cnt Q 720))) : wpY_countFor post (nI c, a, s) w :=
  ⟨721, rg_ycf w hc a s Q hQ post hp 720 0 rfl⟩

theorem rg_xall (w f : Int32) (a g s : Nat → Int32) (p : Nat → Bool) (R : Bool) (hg : ∀ n, n < 720 → g n = rg_B (p n)) (hR : R = true ↔ ∀ n, n < 720 → p n = true → rg_st (a n) w = true)
    (post : Int32 → Prop) (hp : post (rg_B R)) :
    ∀ d j : Nat, j + d = 720 → (∀ n, n < j → p n = true → rg_st (a n) w = true) → wX_inAllGoodOrders_2 post w f a g s (d + 1) (nI j) := by
  intro d
  induction d with
  | zero =>
    intro j hj hb
    have e : j = 720 := by omega
    subst e
    rw [hR.mpr hb] at hp
    exact br_t rg_y720 hp
  | succ d ih =>
    intro j hj hb
    have hl : j < 720 := by omega
    refine br_f (rg_n720 hl) ⟨rg_in hl, ?_⟩
    rw [rg_cl hl, hg j hl]
    cases hpj : p j with
    | false =>
      have ih' := ih (j + 1) (by omega) (lt_s hb (fun z => by rw [hpj] at z; exact absurd z (by decide)))
      exact br_t rfl (nm_r (nI_1 j) ih')
    | true =>
      refine br_f (by decide) ⟨rg_in hl, rg_xst (a j) w _ ?_⟩
      cases hs : rg_st (a j) w with
      | false =>
        have hRf : R = false := by
          cases hRR : R with
          | false => rfl
          | true =>
            have z := hR.mp hRR j hl hpj
            rw [hs] at z
            exact absurd z (by decide)
        rw [hRf] at hp
        exact br_t rfl hp
      | true =>
        have ih' := ih (j + 1) (by omega) (lt_s hb (fun _ => hs))
        exact br_f (by decide) (nm_r (nI_1 j) ih')

theorem rg_xallw {w f : Int32} {a g s : Nat → Int32} {p : Nat → Bool} (R : Bool) (hg : ∀ n, n < 720 → g n = rg_B (p n)) (hR : R = true ↔ ∀ n, n < 720 → p n = true → rg_st (a n) w = true)
    (post : Int32 → Prop) (hp : post (rg_B R)) : wpX_inAllGoodOrders post (f, a, g, s) w :=
  ⟨721, rg_xall w f a g s p R hg hR post hp 720 0 rfl (fun n h => absurd h (Nat.not_lt_zero n))⟩

/-- the first good order, at m -/
theorem rg_xfirst (i f : Int32) (a g s : Nat → Int32) (p : Nat → Bool) (hg : ∀ n, n < 720 → g n = rg_B (p n)) {m : Nat} (hm : m < 720) (hpm : p m = true) (hlo : ∀ n, n < m → p n = false)
    (post : Int32 → Prop) (hp : post (rg_at (a m) i)) :
    ∀ d j : Nat, j + d = m → wX_first_11 post i f a g s (d + 1) (nI j) := by
  intro d
  induction d with
  | zero =>
    intro j hj
    have e : j = m := by omega
    subst e
    refine br_f (rg_n720 hm) ⟨rg_in hm, ?_⟩
    rw [rg_cl hm, hg j hm, hpm]
    exact br_f (by decide) ⟨rg_in hm, hp⟩
  | succ d ih =>
    intro j hj
    have hl : j < 720 := by omega
    have ih' := ih (j + 1) (by omega)
    refine br_f (rg_n720 hl) ⟨rg_in hl, ?_⟩
    rw [rg_cl hl, hg j hl, hlo j (by omega)]
    exact br_t rfl (nm_r (nI_1 j) ih')

theorem rg_yfirst (i : Int32) {c : Nat} (hc : c ≤ 8) (a s : Nat → Int32) {m : Nat} (hm : m < 720) (hpm : rg_gd s (a m) c = true) (hlo : ∀ n, n < m → rg_gd s (a n) c = false)
    (post : Int32 → Prop) (hp : post (rg_at (a m) i)) :
    ∀ d j : Nat, j + d = m → wY_first_13 post i (nI c) a s (d + 1) (nI j) := by
  have hend : wY_first_34 post i (nI m) (nI c) a s := rg_yat (c := nI c) (t := s) hm rfl hp
  intro d
  induction d with
  | zero =>
    intro j hj
    have e : j = m := by omega
    subst e
    by_cases h9 : 719 ≤ j
    · exact br_t (nI_le (a := 719) h9 (by omega)) hend
    · refine br_f (nI_ge (b := 719) (by omega) (by decide)) (rg_ygoodw hm hc _ ?_)
      rw [hpm]
      exact br_f (by decide) hend
  | succ d ih =>
    intro j hj
    have hl : j < 720 := by omega
    have ih' := ih (j + 1) (by omega)
    refine br_f (nI_ge (b := 719) (by omega) (by decide)) (rg_ygoodw hl hc _ ?_)
    rw [hlo j (by omega)]
    exact br_t rfl (nm_r (nI_1 j) ih')

/-- the last good order, at m -/
theorem rg_xlast (i f : Int32) (a g s : Nat → Int32) (p : Nat → Bool) (hg : ∀ n, n < 720 → g n = rg_B (p n)) {m : Nat} (hm : m < 720) (hpm : p m = true) (hhi : ∀ n, m < n → n < 720 → p n = false)
    (post : Int32 → Prop) (hp : post (rg_at (a m) i)) :
    ∀ d : Nat, m + d < 720 → wX_last_13 post i f a g s (d + 1) (nI (m + d)) := by
  intro d
  induction d with
  | zero =>
    intro hd
    show wX_last_13 post i f a g s (0 + 1) (nI m)
    refine br_f (nI_pos (by omega)) ⟨rg_in hm, ?_⟩
    rw [rg_cl hm, hg m hm, hpm]
    exact br_f (by decide) ⟨rg_in hm, hp⟩
  | succ d ih =>
    intro hd
    have ih' := ih (by omega)
    refine br_f (nI_pos (by omega)) ⟨rg_in hd, ?_⟩
    rw [rg_cl hd, hg _ hd, hhi _ (by omega) hd]
    exact br_t rfl (nm_r (pk_m1 (m + d)) ih')

theorem rg_ylast (i : Int32) {c : Nat} (hc : c ≤ 8) (a s : Nat → Int32) {m : Nat} (hm : m < 720) (hpm : rg_gd s (a m) c = true) (hhi : ∀ n, m < n → n < 720 → rg_gd s (a n) c = false)
    (post : Int32 → Prop) (hp : post (rg_at (a m) i)) :
    ∀ d : Nat, m + d < 720 → wY_last_15 post i (nI c) a s (d + 1) (nI (m + d)) := by
  have hend : wY_last_33 post i (nI m) (nI c) a s := rg_yat (c := nI c) (t := s) hm rfl hp
  intro d
  induction d with
  | zero =>
    intro hd
    show wY_last_15 post i (nI c) a s (0 + 1) (nI m)
    by_cases h0 : m = 0
    · subst h0
      exact br_t (by decide) hend
    · refine br_f (nI_nle (by omega) (by omega)) (rg_ygoodw hm hc _ ?_)
      rw [hpm]
      exact br_f (by decide) hend
  | succ d ih =>
    intro hd
    have ih' := ih (by omega)
    refine br_f (nI_nle (by omega) (by omega)) (rg_ygoodw hd hc _ ?_)
    rw [hhi _ (by omega) hd]
    exact br_t rfl (nm_r (pk_m1 (m + d)) ih')

/-- the places of t -/
theorem rg_xplaces (t f : Int32) (a g s : Nat → Int32) (p : Nat → Bool) (hg : ∀ n, n < 720 → g n = rg_B (p n))
    (v : Nat → Int32) (hv : ∀ n, v n = rg_pl (rg_bit (a n) ((1 : Int32) <<< (t &&& 31))) 6)
    (post : Int32 → Prop) (hp : post (rg_acc p v 720)) :
    ∀ d j : Nat, j + d = 720 → wX_places_13 post t f a g s (d + 1) (rg_acc p v j) (nI j) := by
  intro d
  induction d with
  | zero =>
    intro j hj
    have e : j = 720 := by omega
    subst e
    exact br_t rg_y720 hp
  | succ d ih =>
    intro j hj
    have hl : j < 720 := by omega
    have ih' := ih (j + 1) (by omega)
    refine br_f (rg_n720 hl) ⟨rg_in hl, ?_⟩
    rw [rg_cl hl, hg j hl]
    cases hpj : p j with
    | false =>
      rw [rg_acc_f v hpj] at ih'
      exact br_t rfl (nm_r (nI_1 j) ih')
    | true =>
      refine br_f (by decide) ⟨rg_in hl, rg_xplw (a j) _ _ ?_⟩
      rw [← hv j]
      exact nm_r (rg_acc_t v hpj) (nm_r (nI_1 j) ih')

theorem rg_yplin {n : Nat} (hn : n < 720) (t c : Int32) (a s : Nat → Int32) (F : Int32) (b : Nat → Bool) (hb : ∀ i, b i = decide (rg_at (a n) (nI i) = t))
    (post : Int32 → Prop) (J : Int32 → Int32 → Prop) (hJ : J (rg_plf F b 6) (nI (n + 1))) :
    ∀ d j : Nat, j + d = 6 → wY_places_33 post J t (nI n) c a s (d + 1) (rg_plf F b j) (nI j) := by
  intro d
  induction d with
  | zero =>
    intro j hj
    have e : j = 6 := by omega
    subst e
    exact br_t rg_y6 (nm_r (nI_1 n) hJ)
  | succ d ih =>
    intro j hj
    have h : ¬ (6 : Int32) ≤ nI j := rg_n6 (by omega)
    have ih' := ih (j + 1) (by omega)
    refine br_f h (rg_yat hn rfl ?_)
    by_cases ht : rg_at (a n) (nI j) = t
    · have hb' : b j = true := by rw [hb j]; exact decide_eq_true ht
      have e : rg_plf F b j ||| ((1 : Int32) <<< (nI j &&& 31)) = rg_plf F b (j + 1) := by rw [rg_plf_s, if_pos hb']
      exact br_t ht (nm_r e (nm_r (nI_1 j) ih'))
    · have hb' : ¬ b j = true := by rw [hb j]; intro z; exact ht (of_decide_eq_true z)
      have e : rg_plf F b (j + 1) = rg_plf F b j := by rw [rg_plf_s, if_neg hb']
      rw [e] at ih'
      exact br_f ht (nm_r (nI_1 j) ih')

theorem rg_yplaces {t : Nat} (ht : t < 6) {c : Nat} (hc : c ≤ 8) (a s : Nat → Int32)
    (v : Nat → Int32) (hv : ∀ n, v n = rg_pl (rg_bit (a n) ((1 : Int32) <<< (nI t &&& 31))) 6)
    (p : Nat → Bool) (hpp : ∀ n, p n = rg_gd s (a n) c)
    (post : Int32 → Prop) (hp : post (rg_acc p v 720)) :
    ∀ d j : Nat, j + d = 720 → wY_places_15 post (nI t) (nI c) a s (d + 1) (rg_acc p v j) (nI j) := by
  intro d
  induction d with
  | zero =>
    intro j hj
    have e : j = 720 := by omega
    subst e
    exact br_t rg_y720 hp
  | succ d ih =>
    intro j hj
    have hl : j < 720 := by omega
    have ih' := ih (j + 1) (by omega)
    refine br_f (rg_n720 hl) (rg_ygoodw hl hc _ ?_)
    rw [← hpp j]
    cases hpj : p j with
    | false =>
      rw [rg_acc_f v hpj] at ih'
      exact br_t rfl (nm_r (nI_1 j) ih')
    | true =>
      refine br_f (by decide) ⟨7, rg_yplin hl (nI t) (nI c) a s (rg_acc p v j) (rg_bit (a j) ((1 : Int32) <<< (nI t &&& 31))) (rg_bit1 (a j) ht) post _ ?_ 6 0 rfl⟩
      rw [rg_plf_eq, ← hv j, rg_acc_t v hpj]
      exact ih'

/-- the things beside t in one order -/
theorem rg_xnext (o t : Int32) (post : Int32 → Prop) (hp : post (rg_nx o t 5)) :
    ∀ d k : Nat, k + d = 5 → wX_nextTo_4 post o t (d + 1) (rg_nx o t k) (nI (k + 1)) := by
  intro d
  induction d with
  | zero =>
    intro k hk
    have e : k = 5 := by omega
    subst e
    exact br_t rg_y6 hp
  | succ d ih =>
    intro k hk
    have h : ¬ (6 : Int32) ≤ nI (k + 1) := rg_n6 (by omega)
    have ih' := ih (k + 1) (by omega)
    refine br_f h ?_
    rw [nI_pred]
    by_cases h1 : rg_at o (nI k) = t
    · by_cases h2 : rg_at o (nI (k + 1)) = t
      · exact br_t h1 (nm_e (br_t h2 (nm_r (rg_nx_tt h1 h2) (nm_r (nI_1 (k + 1)) ih'))))
      · exact br_t h1 (nm_r (rg_nx_tf h1 h2) (br_f h2 (nm_r (nI_1 (k + 1)) ih')))
    · by_cases h2 : rg_at o (nI (k + 1)) = t
      · exact br_f h1 (br_t h2 (nm_r (rg_nx_ft h1 h2) (nm_r (nI_1 (k + 1)) ih')))
      · rw [← rg_nx_ff h1 h2] at ih'
        exact br_f h1 (br_f h2 (nm_r (nI_1 (k + 1)) ih'))

theorem rg_xnextw (o t : Int32) (post : Int32 → Prop) (hp : post (rg_nx o t 5)) : wpX_nextTo post o t := ⟨6, rg_xnext o t post hp 5 0 rfl⟩

theorem rg_ynext {n : Nat} (hn : n < 720) (t c : Int32) (a s : Nat → Int32) (post : Int32 → Prop) (hp : post (rg_nx (a n) t 5)) :
    ∀ d k : Nat, k + d = 5 → wY_beside_5 post (nI n) t c a s (d + 1) (rg_nx (a n) t k) (nI k) := by
  intro d
  induction d with
  | zero =>
    intro k hk
    have e : k = 5 := by omega
    subst e
    exact br_t (nI_le (a := 5) (b := 5) (Nat.le_refl _) (by decide)) hp
  | succ d ih =>
    intro k hk
    have h : ¬ (5 : Int32) ≤ nI k := nI_ge (b := 5) (by omega) (by decide)
    have ih' := ih (k + 1) (by omega)
    refine br_f h (rg_yat hn rfl ?_)
    by_cases h1 : rg_at (a n) (nI k) = t
    · refine br_t h1 (rg_yat hn (nI_1 k) (rg_yat hn (nI_1 k) ?_))
      by_cases h2 : rg_at (a n) (nI (k + 1)) = t
      · exact br_t h2 (rg_yat hn rfl (nm_r (rg_nx_tt h1 h2) (nm_r (nI_1 k) ih')))
      · rw [← rg_nx_tf h1 h2] at ih'
        exact br_f h2 (nm_r (nI_1 k) ih')
    · refine br_f h1 (rg_yat hn (nI_1 k) ?_)
      by_cases h2 : rg_at (a n) (nI (k + 1)) = t
      · exact br_t h2 (rg_yat hn rfl (nm_r (rg_nx_ft h1 h2) (nm_r (nI_1 k) ih')))
      · rw [← rg_nx_ff h1 h2] at ih'
        exact br_f h2 (nm_r (nI_1 k) ih')

theorem rg_ynextw {n : Nat} (hn : n < 720) (t : Int32) {c : Int32} {a s : Nat → Int32} (post : Int32 → Prop) (hp : post (rg_nx (a n) t 5)) : wpY_beside post (c, a, s) (nI n) t :=
  ⟨6, rg_ynext hn t c a s post hp 5 0 rfl⟩

theorem rg_xneigh (t f : Int32) (a g s : Nat → Int32) (p : Nat → Bool) (hg : ∀ n, n < 720 → g n = rg_B (p n))
    (v : Nat → Int32) (hv : ∀ n, v n = rg_nx (a n) t 5)
    (post : Int32 → Prop) (hp : post (rg_acc p v 720)) :
    ∀ d j : Nat, j + d = 720 → wX_neighbours_13 post t f a g s (d + 1) (rg_acc p v j) (nI j) := by
  intro d
  induction d with
  | zero =>
    intro j hj
    have e : j = 720 := by omega
    subst e
    exact br_t rg_y720 hp
  | succ d ih =>
    intro j hj
    have hl : j < 720 := by omega
    have ih' := ih (j + 1) (by omega)
    refine br_f (rg_n720 hl) ⟨rg_in hl, ?_⟩
    rw [rg_cl hl, hg j hl]
    cases hpj : p j with
    | false =>
      rw [rg_acc_f v hpj] at ih'
      exact br_t rfl (nm_r (nI_1 j) ih')
    | true =>
      refine br_f (by decide) ⟨rg_in hl, rg_xnextw (a j) t _ ?_⟩
      rw [← hv j]
      exact nm_r (rg_acc_t v hpj) (nm_r (nI_1 j) ih')

theorem rg_yneigh (t : Int32) {c : Nat} (hc : c ≤ 8) (a s : Nat → Int32)
    (v : Nat → Int32) (hv : ∀ n, v n = rg_nx (a n) t 5)
    (p : Nat → Bool) (hpp : ∀ n, p n = rg_gd s (a n) c)
    (post : Int32 → Prop) (hp : post (rg_acc p v 720)) :
    ∀ d j : Nat, j + d = 720 → wY_neighbours_15 post t (nI c) a s (d + 1) (rg_acc p v j) (nI j) := by
  intro d
  induction d with
  | zero =>
    intro j hj
    have e : j = 720 := by omega
    subst e
    exact br_t rg_y720 hp
  | succ d ih =>
    intro j hj
    have hl : j < 720 := by omega
    have ih' := ih (j + 1) (by omega)
    refine br_f (rg_n720 hl) (rg_ygoodw hl hc _ ?_)
    rw [← hpp j]
    cases hpj : p j with
    | false =>
      rw [rg_acc_f v hpj] at ih'
      exact br_t rfl (nm_r (nI_1 j) ih')
    | true =>
      refine br_f (by decide) (rg_ynextw hl t _ ?_)
      rw [← hv j]
      exact nm_r (rg_acc_t v hpj) (nm_r (nI_1 j) ih')

/-- how many of the 64 sets; R: whether the set stands together in all good orders -/
theorem rg_xgroups (f : Int32) (a g s : Nat → Int32) (p : Nat → Bool) (hg : ∀ n, n < 720 → g n = rg_B (p n))
    (R : Nat → Bool) (hR : ∀ w, R w = true ↔ ∀ n, n < 720 → p n = true → rg_st (a n) (nI w) = true)
    (post : Int32 → Prop) (hp : post (nI (rg_cnt R 64))) :
    ∀ d w : Nat, w + d = 64 → wX_groups_4 post f a g s (d + 1) (nI (rg_cnt R w)) (nI w) := by
  intro d
  induction d with
  | zero =>
    intro w hw
    have e : w = 64 := by omega
    subst e
    exact br_t (nI_le (a := 64) (b := 64) (Nat.le_refl _) (by decide)) hp
  | succ d ih =>
    intro w hw
    have ih' := ih (w + 1) (by omega)
    refine br_f (nI_ge (b := 64) (by omega) (by decide)) (rg_xallw (R w) hg (hR w) _ ?_)
    cases hr : R w with
    | false =>
      rw [rg_cnt_f hr] at ih'
      exact br_t rfl (nm_r (nI_1 w) ih')
    | true =>
      exact br_f (by decide) (nm_r (rg_cnt_t hr) (nm_r (nI_1 w) ih'))

theorem rg_ygroups {c : Nat} (hc : c ≤ 8) (a s : Nat → Int32) (Z : Nat) (R : Nat → Bool)
    (hR : ∀ w, w < 64 → (nI (rg_cnt (fun n => rg_gd s (a n) c && rg_st (a n) (nI w)) 720) = nI Z ↔ R w = true))
    (post : Int32 → Prop) (hp : post (nI (rg_cnt R 64))) :
    ∀ d w : Nat, w + d = 64 → wY_groups_10 post (nI Z) (nI c) a s (d + 1) (nI (rg_cnt R w)) (nI w) := by
  intro d
  induction d with
  | zero =>
    intro w hw
    have e : w = 64 := by omega
    subst e
    exact br_t (nI_le (a := 64) (b := 64) (Nat.le_refl _) (by decide)) hp
  | succ d ih =>
    intro w hw
    have ih' := ih (w + 1) (by omega)
    refine br_f (nI_ge (b := 64) (by omega) (by decide)) (rg_ycfw hc (fun n => rg_gd s (a n) c && rg_st (a n) (nI w)) (fun _ _ => rfl) _ ?_)
    by_cases hz : nI (rg_cnt (fun n => rg_gd s (a n) c && rg_st (a n) (nI w)) 720) = nI Z
    · exact br_t hz (nm_r (rg_cnt_t ((hR w (by omega)).mp hz)) (nm_r (nI_1 w) ih'))
    · have hr : R w = false := by
        cases hr : R w with
        | false => rfl
        | true => exact absurd ((hR w (by omega)).mpr hr) hz
      rw [rg_cnt_f hr] at ih'
      exact br_f hz (nm_r (nI_1 w) ih')
end
section
/-! The relation and what is owed. -/

/-- The counts, the tables of orders and the demanded sets are the same on both sides; the marks tell the good orders, and there is one. -/
def i_Rel (_ : Nat) (u : SX) (v : SY) : Prop := ∃ (c : Nat) (a g s : Nat → Int32), u = (nI c, a, g, s) ∧ v = (nI c, a, s) ∧ c ≤ 8 ∧ (∀ n, n < 720 → g n = rg_B (rg_gd s (a n) c)) ∧ ∃ n, n < 720 ∧ rg_gd s (a n) c = true

theorem i_up {k : Nat} {u : SX} {v : SY} (h : i_Rel k u v) : i_Rel (k + 2) u v := h

theorem i_vc0 : wpX_init (fun u => wpY_init (fun v => i_Rel 0 u v)) := by
  obtain ⟨f, hf⟩ := Classical.axiomOfChoice (fun n : Nat => rg_order (nI n))
  have hrel : i_Rel 0 (0, rg_tab f 720, rg_ones 720, fun _ => 0) (0, rg_tab f 720, fun _ => 0) :=
    ⟨0, rg_tab f 720, rg_ones 720, fun _ => 0, rfl, rfl, by decide, fun n hn => rg_ones_lt 720 n hn, 0, by decide, rfl⟩
  have hy : wpY_init (fun v => i_Rel 0 (0, rg_tab f 720, rg_ones 720, fun _ => 0) v) := ⟨721, rg_yinit f (fun n => (hf n).2) _ hrel 720 0 rfl⟩
  exact ⟨721, rg_xinit f (fun n => (hf n).1) _ hy 720 0 rfl⟩

theorem rg_isSet (v : Int32) : ∃ b : Bool, (∀ post : Int32 → Prop, post (rg_B b) → wpX_isSet post v) ∧ (∀ (post : Int32 → Prop) (c : Int32) (a s : Nat → Int32), post (rg_B b) → wpY_isSet post (c, a, s) v) := by
  by_cases h0 : v < 0
  · exact ⟨false, fun _ hp => br_t h0 hp, fun _ _ _ _ hp => br_t h0 hp⟩
  · obtain ⟨j, hj, rfl⟩ := nI_of h0
    by_cases h : j < 64
    · exact ⟨true, fun _ hp => br_f h0 (br_f (nI_ge (b := 64) h (by decide)) hp), fun _ _ _ _ hp => br_f h0 (br_f (nI_nlt (a := 63) (by omega) (by decide)) hp)⟩
    · exact ⟨false, fun _ hp => br_f h0 (br_t (nI_le (a := 64) (by omega) hj) hp), fun _ _ _ _ hp => br_f h0 (br_t (nI_lt (a := 63) (by omega) hj) hp)⟩

theorem rg_thing (v : Int32) : (∃ t : Nat, t < 6 ∧ v = nI t) ∨ ((∀ post : Int32 → Prop, post 0 → wpX_isThingOrPlace post v) ∧ (v < 0 ∨ (¬ v < 0 ∧ ¬ v ≤ 5))) := by
  by_cases h0 : v < 0
  · exact Or.inr ⟨fun _ hp => br_t h0 hp, Or.inl h0⟩
  · obtain ⟨j, hj, rfl⟩ := nI_of h0
    by_cases h : j < 6
    · exact Or.inl ⟨j, h, rfl⟩
    · exact Or.inr ⟨fun _ hp => br_f h0 (br_t (nI_le (a := 6) (by omega) hj) hp), Or.inr ⟨h0, nI_ge (a := 5) (by omega) hj⟩⟩

theorem rg_xthing {t : Nat} (ht : t < 6) (post : Int32 → Prop) (hp : post 1) : wpX_isThingOrPlace post (nI t) := br_f (nI_pos (by omega)) (br_f (rg_n6 ht) hp)

theorem rg_bad {v : Int32} {A P : Prop} (h : v < 0 ∨ (¬ v < 0 ∧ ¬ v ≤ 5)) (hp : P) : (v < 0 → P) ∧ (¬ v < 0 → ((v ≤ 5 → A) ∧ (¬ v ≤ 5 → P))) :=
  ⟨fun _ => hp, fun h0 => ⟨fun h5 => absurd h5 (h.elim (fun z => absurd z h0) (fun z => z.2)), fun _ => hp⟩⟩

theorem rg_ok {t : Nat} (ht : t < 6) {A P B : Prop} (ha : A) : (nI t < 0 → P) ∧ (¬ nI t < 0 → ((nI t ≤ 5 → A) ∧ (¬ nI t ≤ 5 → B))) :=
  br_f (nI_pos (by omega)) (br_t (nI_le (b := 5) (by omega) (by decide)) ha)

theorem rg_all0 (s a : Nat → Int32) (c : Nat) : ∀ n, n < 720 → rg_gd s (a n) c = (rg_gd s (a n) c && rg_st (a n) 0) := by
  intro n _
  rw [rg_st0, Bool.and_true]

theorem rg_c31 (p : Nat → Bool) : rg_cnt p 720 < 2 ^ 31 := Nat.lt_of_le_of_lt (rg_cnt_le p 720) (by decide)

theorem i_vc_demand {k : Nat} {u : SX} {v : SY} (I : i_Rel k u v) (hk : k + 2 ≤ 1024) (v1 : Int32) : wpX_demand (fun r u' => wpY_demand (fun r' v' => r' = r ∧ i_Rel (k + 2) u' v') v v1) u v1 := by
  obtain ⟨c, a, g, s, rfl, rfl, hc, hg, hx⟩ := I
  have hr : i_Rel (k + 2) (nI c, a, g, s) (nI c, a, s) := ⟨c, a, g, s, rfl, rfl, hc, hg, hx⟩
  obtain ⟨b, bX, bY⟩ := rg_isSet v1
  unfold wpX_demand
  dsimp only
  refine bX _ ?_
  cases b with
  | false =>
    refine br_t rfl ?_
    unfold wpY_demand
    dsimp only
    exact bY _ _ _ _ (br_t rfl ⟨rfl, hr⟩)
  | true =>
    refine br_f (by decide) ?_
    by_cases h8 : c < 8
    · have hn8 : ¬ nI c = 8 := by
        intro z
        have z' : nI c = nI 8 := z
        rw [nI_eq (by omega) (by omega)] at z'
        omega
      have hin : vp_in (nI c) 8 := vp_in_nI h8 (by decide)
      have eu : upd s (nI c).toNatClampNeg v1 = upd s c v1 := by rw [nI_clamp (by omega)]
      refine br_t (nI_lt (b := 8) h8 (by decide)) (rg_xgww (p := fun n => rg_gd s (a n) c) (fun n => rg_gd s (a n) c && rg_st (a n) v1) hg (fun _ _ => rfl) _ ?_)
      by_cases hz : rg_cnt (fun n => rg_gd s (a n) c && rg_st (a n) v1) 720 = 0
      · have hz' : nI (rg_cnt (fun n => rg_gd s (a n) c && rg_st (a n) v1) 720) = 0 := by rw [hz]; rfl
        refine br_t hz' ?_
        unfold wpY_demand
        dsimp only
        refine bY _ _ _ _ (br_f (by decide) (br_f hn8 (rg_ycfw hc _ (fun _ _ => rfl) _ ?_)))
        exact br_t hz' ⟨rfl, hr⟩
      · have hz' : ¬ nI (rg_cnt (fun n => rg_gd s (a n) c && rg_st (a n) v1) 720) = 0 := nI_ne0 (Nat.pos_of_ne_zero hz) (rg_c31 _)
        refine br_f hz' ⟨hin, nm_r eu (nm_r (nI_1 c) (rg_xfindw (c := c + 1) (by omega) a g (upd s c v1) _ ?_))⟩
        intro g' hg'
        have hr' : i_Rel (k + 2) (nI (c + 1), a, g', upd s c v1) (nI (c + 1), a, upd s c v1) := by
          refine ⟨c + 1, a, g', upd s c v1, rfl, rfl, by omega, hg', ?_⟩
          obtain ⟨n, hn, hq⟩ := rg_cnt_pos.mp hz
          refine ⟨n, hn, ?_⟩
          have hq' := (Bool.and_eq_true _ _).mp hq
          rw [rg_gd_s, pk_us, rg_gd_congr (s' := s) (fun d hd => pk_un (by omega)), hq'.1, hq'.2]
          rfl
        show wpY_demand _ _ _
        unfold wpY_demand
        dsimp only
        refine bY _ _ _ _ (br_f (by decide) (br_f hn8 (rg_ycfw hc _ (fun _ _ => rfl) _ ?_)))
        exact br_f hz' ⟨hin, nm_r eu (nm_r (nI_1 c) ⟨rfl, hr'⟩)⟩
    · have e8 : c = 8 := by omega
      subst e8
      refine br_f (nI_nlt (b := 8) (Nat.le_refl 8) (by decide)) ?_
      unfold wpY_demand
      dsimp only
      exact bY _ _ _ _ (br_f (by decide) (br_t rfl ⟨rfl, hr⟩))

theorem i_vc_undo {k : Nat} {u : SX} {v : SY} (I : i_Rel k u v) (hk : k + 2 ≤ 1024) : wpX_undo (fun r u' => wpY_undo (fun r' v' => r' = r ∧ i_Rel (k + 2) u' v') v) u := by
  obtain ⟨c, a, g, s, rfl, rfl, hc, hg, hx⟩ := I
  cases c with
  | zero =>
    have hr : i_Rel (k + 2) (nI 0, a, g, s) (nI 0, a, s) := ⟨0, a, g, s, rfl, rfl, hc, hg, hx⟩
    unfold wpX_undo
    dsimp only
    refine br_f (by decide) ?_
    unfold wpY_undo
    dsimp only
    exact br_t rfl ⟨rfl, hr⟩
  | succ c =>
    have hin : vp_in (nI c) 8 := vp_in_nI (by omega) (by decide)
    unfold wpX_undo
    dsimp only
    refine br_t (nI_lt (a := 0) (by omega) (by omega)) (nm_r (nI_pred c) (rg_xfindw (c := c) (by omega) a g s _ ?_))
    intro g' hg'
    have hr' : i_Rel (k + 2) (nI c, a, g', s) (nI c, a, s) := by
      refine ⟨c, a, g', s, rfl, rfl, by omega, hg', ?_⟩
      obtain ⟨n, hn, hq⟩ := hx
      rw [rg_gd_s] at hq
      exact ⟨n, hn, ((Bool.and_eq_true _ _).mp hq).1⟩
    refine ⟨hin, ?_⟩
    unfold wpY_undo
    dsimp only
    exact br_f (nI_ne0 (by omega) (by omega)) (nm_r (nI_pred c) ⟨hin, ⟨rfl, hr'⟩⟩)

theorem i_vc_clear {k : Nat} {u : SX} {v : SY} (I : i_Rel k u v) (hk : k + 2 ≤ 1024) : wpX_clear (fun r u' => wpY_clear (fun r' v' => r' = r ∧ i_Rel (k + 2) u' v') v) u := by
  obtain ⟨c, a, g, s, rfl, rfl, hc, hg, hx⟩ := I
  unfold wpX_clear
  dsimp only
  refine rg_xfindw (c := 0) (by decide) a g s _ ?_
  intro g' hg'
  unfold wpY_clear
  dsimp only
  exact ⟨rfl, 0, a, g', s, rfl, rfl, by decide, hg', 0, by decide, rfl⟩

theorem i_vc_demands {k : Nat} {u : SX} {v : SY} (I : i_Rel k u v) (hk : k + 2 ≤ 1024) : wpX_demands (fun r => wpY_demands (fun r' => r' = r ∧ i_Rel (k + 2) u v) v) u := by
  obtain ⟨c, a, g, s, rfl, rfl, hc, hg, hx⟩ := I
  exact ⟨rfl, c, a, g, s, rfl, rfl, hc, hg, hx⟩

theorem i_vc_count {k : Nat} {u : SX} {v : SY} (I : i_Rel k u v) (hk : k + 2 ≤ 1024) : wpX_count (fun r => wpY_count (fun r' => r' = r ∧ i_Rel (k + 2) u v) v) u := by
  obtain ⟨c, a, g, s, rfl, rfl, hc, hg, hx⟩ := I
  have hr : i_Rel (k + 2) (nI c, a, g, s) (nI c, a, s) := ⟨c, a, g, s, rfl, rfl, hc, hg, hx⟩
  unfold wpX_count
  dsimp only
  refine rg_xgww (p := fun n => rg_gd s (a n) c) (fun n => rg_gd s (a n) c) hg (rg_all0 s a c) _ ?_
  unfold wpY_count
  dsimp only
  exact rg_ycfw hc (fun n => rg_gd s (a n) c) (rg_all0 s a c) _ ⟨rfl, hr⟩

theorem i_vc_first {k : Nat} {u : SX} {v : SY} (I : i_Rel k u v) (hk : k + 2 ≤ 1024) (v1 : Int32) : wpX_first (fun r => wpY_first (fun r' => r' = r ∧ i_Rel (k + 2) u v) v v1) u v1 := by
  obtain ⟨c, a, g, s, rfl, rfl, hc, hg, hx⟩ := I
  have hr : i_Rel (k + 2) (nI c, a, g, s) (nI c, a, s) := ⟨c, a, g, s, rfl, rfl, hc, hg, hx⟩
  rcases rg_thing v1 with ⟨t, ht, rfl⟩ | ⟨hX, hb⟩
  · obtain ⟨m, ⟨hm, hpm⟩, hlo⟩ := pk_least (fun n => n < 720 ∧ rg_gd s (a n) c = true) hx
    have hlo' : ∀ n, n < m → rg_gd s (a n) c = false := by
      intro n hn
      cases hd : rg_gd s (a n) c with
      | false => rfl
      | true => exact absurd ⟨by omega, hd⟩ (hlo n hn)
    unfold wpX_first
    dsimp only
    refine rg_xthing ht _ ?_
    refine br_f (by decide) ⟨m + 1, rg_xfirst (nI t) (nI c) a g s (fun n => rg_gd s (a n) c) hg hm hpm hlo' _ ?_ m 0 (Nat.zero_add m)⟩
    unfold wpY_first
    dsimp only
    exact rg_ok ht ⟨m + 1, rg_yfirst (nI t) hc a s hm hpm hlo' _ ⟨rfl, hr⟩ m 0 (Nat.zero_add m)⟩
  · unfold wpX_first
    dsimp only
    refine hX _ ?_
    refine br_t rfl ?_
    unfold wpY_first
    dsimp only
    exact rg_bad hb ⟨rfl, hr⟩

theorem i_vc_last {k : Nat} {u : SX} {v : SY} (I : i_Rel k u v) (hk : k + 2 ≤ 1024) (v1 : Int32) : wpX_last (fun r => wpY_last (fun r' => r' = r ∧ i_Rel (k + 2) u v) v v1) u v1 := by
  obtain ⟨c, a, g, s, rfl, rfl, hc, hg, hx⟩ := I
  have hr : i_Rel (k + 2) (nI c, a, g, s) (nI c, a, s) := ⟨c, a, g, s, rfl, rfl, hc, hg, hx⟩
  rcases rg_thing v1 with ⟨t, ht, rfl⟩ | ⟨hX, hb⟩
  · obtain ⟨m, hm, hpm, hhi⟩ := rg_last (fun n => rg_gd s (a n) c = true) 720 hx
    have hhi' : ∀ n, m < n → n < 720 → rg_gd s (a n) c = false := by
      intro n h1 h2
      cases hd : rg_gd s (a n) c with
      | false => rfl
      | true => exact absurd hd (hhi n h1 h2)
    have em : m + (719 - m) = 719 := by omega
    unfold wpX_last
    dsimp only
    refine rg_xthing ht _ ?_
    refine br_f (by decide) ⟨719 - m + 1, ?_⟩
    have hX : ∀ post : Int32 → Prop, post (rg_at (a m) (nI t)) → wX_last_13 post (nI t) (nI c) a g s (719 - m + 1) (nI 719) := by
      intro post hp
      have h := rg_xlast (nI t) (nI c) a g s (fun n => rg_gd s (a n) c) hg hm hpm hhi' post hp (719 - m) (by omega)
      rw [em] at h
      exact h
    have hY : ∀ post : Int32 → Prop, post (rg_at (a m) (nI t)) → wY_last_15 post (nI t) (nI c) a s (719 - m + 1) (nI 719) := by
      intro post hp
      have h := rg_ylast (nI t) hc a s hm hpm hhi' post hp (719 - m) (by omega)
      rw [em] at h
      exact h
    refine hX _ ?_
    unfold wpY_last
    dsimp only
    exact rg_ok ht ⟨719 - m + 1, hY _ ⟨rfl, hr⟩⟩
  · unfold wpX_last
    dsimp only
    refine hX _ ?_
    refine br_t rfl ?_
    unfold wpY_last
    dsimp only
    exact rg_bad hb ⟨rfl, hr⟩

theorem i_vc_allowed {k : Nat} {u : SX} {v : SY} (I : i_Rel k u v) (hk : k + 2 ≤ 1024) (v1 : Int32) : wpX_allowed (fun r => wpY_allowed (fun r' => r' = r ∧ i_Rel (k + 2) u v) v v1) u v1 := by
  obtain ⟨c, a, g, s, rfl, rfl, hc, hg, hx⟩ := I
  have hr : i_Rel (k + 2) (nI c, a, g, s) (nI c, a, s) := ⟨c, a, g, s, rfl, rfl, hc, hg, hx⟩
  obtain ⟨b, bX, bY⟩ := rg_isSet v1
  unfold wpX_allowed
  dsimp only
  refine bX _ ?_
  cases b with
  | false =>
    refine br_t rfl ?_
    unfold wpY_allowed
    dsimp only
    exact bY _ _ _ _ (br_t rfl ⟨rfl, hr⟩)
  | true =>
    refine br_f (by decide) (rg_xgww (p := fun n => rg_gd s (a n) c) (fun n => rg_gd s (a n) c && rg_st (a n) v1) hg (fun _ _ => rfl) _ ?_)
    by_cases hz : nI (rg_cnt (fun n => rg_gd s (a n) c && rg_st (a n) v1) 720) ≤ 0
    · refine br_t hz ?_
      unfold wpY_allowed
      dsimp only
      refine bY _ _ _ _ (br_f (by decide) (rg_ycfw hc _ (fun _ _ => rfl) _ ?_))
      exact br_t hz ⟨rfl, hr⟩
    · refine br_f hz ?_
      unfold wpY_allowed
      dsimp only
      refine bY _ _ _ _ (br_f (by decide) (rg_ycfw hc _ (fun _ _ => rfl) _ ?_))
      exact br_f hz ⟨rfl, hr⟩

theorem i_vc_together {k : Nat} {u : SX} {v : SY} (I : i_Rel k u v) (hk : k + 2 ≤ 1024) (v1 : Int32) : wpX_together (fun r => wpY_together (fun r' => r' = r ∧ i_Rel (k + 2) u v) v v1) u v1 := by
  obtain ⟨c, a, g, s, rfl, rfl, hc, hg, hx⟩ := I
  have hr : i_Rel (k + 2) (nI c, a, g, s) (nI c, a, s) := ⟨c, a, g, s, rfl, rfl, hc, hg, hx⟩
  obtain ⟨b, bX, bY⟩ := rg_isSet v1
  unfold wpX_together
  dsimp only
  refine bX _ ?_
  cases b with
  | false =>
    refine br_t rfl ?_
    unfold wpY_together
    dsimp only
    exact bY _ _ _ _ (br_t rfl ⟨rfl, hr⟩)
  | true =>
    have hall := (rg_cnt_all (p := fun n => rg_gd s (a n) c) (q := fun n => rg_st (a n) v1) (k := 720)).1
    by_cases hz : ∀ n, n < 720 → rg_gd s (a n) c = true → rg_st (a n) v1 = true
    · refine br_f (by decide) (rg_xallw (p := fun n => rg_gd s (a n) c) true hg ⟨fun _ => hz, fun _ => rfl⟩ _ ?_)
      refine br_f (by decide) ?_
      unfold wpY_together
      dsimp only
      refine bY _ _ _ _ (br_f (by decide) (rg_ycfw hc (fun n => rg_gd s (a n) c && rg_st (a n) v1) (fun _ _ => rfl) _ ?_))
      refine rg_ycfw hc (fun n => rg_gd s (a n) c) (rg_all0 s a c) _ ?_
      exact br_t (congrArg nI (hall.mpr hz)) ⟨rfl, hr⟩
    · refine br_f (by decide) (rg_xallw (p := fun n => rg_gd s (a n) c) false hg ⟨fun z => absurd z (by decide), fun z => absurd z hz⟩ _ ?_)
      refine br_t rfl ?_
      unfold wpY_together
      dsimp only
      refine bY _ _ _ _ (br_f (by decide) (rg_ycfw hc (fun n => rg_gd s (a n) c && rg_st (a n) v1) (fun _ _ => rfl) _ ?_))
      refine rg_ycfw hc (fun n => rg_gd s (a n) c) (rg_all0 s a c) _ ?_
      exact br_f (fun z => hz (hall.mp ((nI_eq (rg_c31 _) (rg_c31 _)).mp z))) ⟨rfl, hr⟩

theorem i_vc_countWith {k : Nat} {u : SX} {v : SY} (I : i_Rel k u v) (hk : k + 2 ≤ 1024) (v1 : Int32) : wpX_countWith (fun r => wpY_countWith (fun r' => r' = r ∧ i_Rel (k + 2) u v) v v1) u v1 := by
  obtain ⟨c, a, g, s, rfl, rfl, hc, hg, hx⟩ := I
  have hr : i_Rel (k + 2) (nI c, a, g, s) (nI c, a, s) := ⟨c, a, g, s, rfl, rfl, hc, hg, hx⟩
  obtain ⟨b, bX, bY⟩ := rg_isSet v1
  unfold wpX_countWith
  dsimp only
  refine bX _ ?_
  cases b with
  | false =>
    refine br_t rfl ?_
    unfold wpY_countWith
    dsimp only
    exact bY _ _ _ _ (br_t rfl ⟨rfl, hr⟩)
  | true =>
    refine br_f (by decide) (rg_xgww (p := fun n => rg_gd s (a n) c) (fun n => rg_gd s (a n) c && rg_st (a n) v1) hg (fun _ _ => rfl) _ ?_)
    unfold wpY_countWith
    dsimp only
    refine bY _ _ _ _ (br_f (by decide) (rg_ycfw hc (fun n => rg_gd s (a n) c && rg_st (a n) v1) (fun _ _ => rfl) _ ?_))
    exact ⟨rfl, hr⟩

theorem i_vc_places {k : Nat} {u : SX} {v : SY} (I : i_Rel k u v) (hk : k + 2 ≤ 1024) (v1 : Int32) : wpX_places (fun r => wpY_places (fun r' => r' = r ∧ i_Rel (k + 2) u v) v v1) u v1 := by
  obtain ⟨c, a, g, s, rfl, rfl, hc, hg, hx⟩ := I
  have hr : i_Rel (k + 2) (nI c, a, g, s) (nI c, a, s) := ⟨c, a, g, s, rfl, rfl, hc, hg, hx⟩
  rcases rg_thing v1 with ⟨t, ht, rfl⟩ | ⟨hX, hb⟩
  · unfold wpX_places
    dsimp only
    refine rg_xthing ht _ ?_
    refine br_f (by decide) ⟨721, rg_xplaces (nI t) (nI c) a g s (fun n => rg_gd s (a n) c) hg (fun n => rg_pl (rg_bit (a n) ((1 : Int32) <<< (nI t &&& 31))) 6) (fun _ => rfl) _ ?_ 720 0 rfl⟩
    unfold wpY_places
    dsimp only
    exact rg_ok ht ⟨721, rg_yplaces ht hc a s (fun n => rg_pl (rg_bit (a n) ((1 : Int32) <<< (nI t &&& 31))) 6) (fun _ => rfl) (fun n => rg_gd s (a n) c) (fun _ => rfl) _ ⟨rfl, hr⟩ 720 0 rfl⟩
  · unfold wpX_places
    dsimp only
    refine hX _ ?_
    refine br_t rfl ?_
    unfold wpY_places
    dsimp only
    exact rg_bad hb ⟨rfl, hr⟩

theorem i_vc_neighbours {k : Nat} {u : SX} {v : SY} (I : i_Rel k u v) (hk : k + 2 ≤ 1024) (v1 : Int32) : wpX_neighbours (fun r => wpY_neighbours (fun r' => r' = r ∧ i_Rel (k + 2) u v) v v1) u v1 := by
  obtain ⟨c, a, g, s, rfl, rfl, hc, hg, hx⟩ := I
  have hr : i_Rel (k + 2) (nI c, a, g, s) (nI c, a, s) := ⟨c, a, g, s, rfl, rfl, hc, hg, hx⟩
  rcases rg_thing v1 with ⟨t, ht, rfl⟩ | ⟨hX, hb⟩
  · unfold wpX_neighbours
    dsimp only
    refine rg_xthing ht _ ?_
    refine br_f (by decide) ⟨721, rg_xneigh (nI t) (nI c) a g s (fun n => rg_gd s (a n) c) hg (fun n => rg_nx (a n) (nI t) 5) (fun _ => rfl) _ ?_ 720 0 rfl⟩
    unfold wpY_neighbours
    dsimp only
    exact rg_ok ht ⟨721, rg_yneigh (nI t) hc a s (fun n => rg_nx (a n) (nI t) 5) (fun _ => rfl) (fun n => rg_gd s (a n) c) (fun _ => rfl) _ ⟨rfl, hr⟩ 720 0 rfl⟩
  · unfold wpX_neighbours
    dsimp only
    refine hX _ ?_
    refine br_t rfl ?_
    unfold wpY_neighbours
    dsimp only
    exact rg_bad hb ⟨rfl, hr⟩

theorem i_vc_groups {k : Nat} {u : SX} {v : SY} (I : i_Rel k u v) (hk : k + 2 ≤ 1024) : wpX_groups (fun r => wpY_groups (fun r' => r' = r ∧ i_Rel (k + 2) u v) v) u := by
  obtain ⟨c, a, g, s, rfl, rfl, hc, hg, hx⟩ := I
  have hr : i_Rel (k + 2) (nI c, a, g, s) (nI c, a, s) := ⟨c, a, g, s, rfl, rfl, hc, hg, hx⟩
  have hX : ∀ w : Nat, decide (rg_cnt (fun n => rg_gd s (a n) c && rg_st (a n) (nI w)) 720 = rg_cnt (fun n => rg_gd s (a n) c) 720) = true ↔ ∀ n, n < 720 → rg_gd s (a n) c = true → rg_st (a n) (nI w) = true :=
    fun w => decide_eq_true_iff.trans (rg_cnt_all (p := fun n => rg_gd s (a n) c) (q := fun n => rg_st (a n) (nI w)) (k := 720)).1
  unfold wpX_groups
  dsimp only
  refine ⟨65, rg_xgroups (nI c) a g s (fun n => rg_gd s (a n) c) hg (fun w => decide (rg_cnt (fun n => rg_gd s (a n) c && rg_st (a n) (nI w)) 720 = rg_cnt (fun n => rg_gd s (a n) c) 720)) hX _ ?_ 64 0 rfl⟩
  unfold wpY_groups
  dsimp only
  refine rg_ycfw hc (fun n => rg_gd s (a n) c) (rg_all0 s a c) _ ?_
  exact ⟨65, rg_ygroups hc a s (rg_cnt (fun n => rg_gd s (a n) c) 720) (fun w => decide (rg_cnt (fun n => rg_gd s (a n) c && rg_st (a n) (nI w)) 720 = rg_cnt (fun n => rg_gd s (a n) c) 720))
    (fun w _ => (nI_eq (rg_c31 _) (rg_c31 _)).trans decide_eq_true_iff.symm) _ ⟨rfl, hr⟩ 64 0 rfl⟩
end
