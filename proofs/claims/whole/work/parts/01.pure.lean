/-! The mathematics of RowGroups, without any walk. The six pk_ rows are pasted from kit/rows. -/
theorem pk_us {f : Nat → Int32} {k : Nat} {x : Int32} : upd f k x k = x := if_pos rfl
theorem pk_un {f : Nat → Int32} {k j : Nat} {x : Int32} (h : j ≠ k) : upd f k x j = f j := if_neg h
theorem pk_m1 (n : Nat) : nI (n + 1) + (-1) = nI n := by
  rw [← nI_1, Int32.add_assoc, show (1 : Int32) + (-1) = 0 from rfl, Int32.add_zero]
theorem pk_and (x : Int32) {m : Int32} (k : Nat) (hm : m.toBitVec.toNat = 2 ^ k - 1) : x &&& m = nI (x.toBitVec.toNat % 2 ^ k) := by
  apply Int32.toBitVec_inj.mp
  apply BitVec.eq_of_toNat_eq
  rw [Int32.toBitVec_and, BitVec.toNat_and, hm, Nat.and_two_pow_sub_one_eq_mod]
  show _ = (BitVec.ofNat 32 _).toNat
  rw [BitVec.toNat_ofNat]
  exact (Nat.mod_eq_of_lt (Nat.lt_of_le_of_lt (Nat.mod_le _ _) x.toBitVec.isLt)).symm
theorem pk_andE (x : Int32) {m : Int32} (k : Nat) (hm : m.toBitVec.toNat = 2 ^ k - 1) : ∃ j : Nat, j < 2 ^ k ∧ x &&& m = nI j := ⟨_, Nat.mod_lt _ (Nat.two_pow_pos k), pk_and x k hm⟩
theorem pk_least (P : Nat → Prop) (h : ∃ k, P k) : ∃ k, P k ∧ ∀ j, j < k → ¬ P j := by
  obtain ⟨k, hk⟩ := h
  induction k using Nat.strongRecOn with
  | ind k ih =>
    by_cases e : ∃ j, j < k ∧ P j
    · obtain ⟨j, hj, pj⟩ := e
      exact ih j hj pj
    · exact ⟨k, hk, fun j hj pj => e ⟨j, hj, pj⟩⟩

/-- the thing at place i of a packed order -/
def rg_at (o i : Int32) : Int32 := (o >>> ((3 * i) &&& 31)) &&& 7

/-- whether the thing at place i is one of the set -/
def rg_bit (o s : Int32) (i : Nat) : Bool := decide (((s >>> (rg_at o (nI i) &&& 31)) &&& 1) = 1)

/-- the places below k that are marked, as a set -/
def rg_pl (b : Nat → Bool) : Nat → Int32
  | 0 => 0
  | k + 1 => if b k = true then rg_pl b k ||| (1 <<< (nI k &&& 31)) else rg_pl b k

/-- the mark ahead of place k -/
def rg_bf (b : Nat → Bool) : Nat → Bool
  | 0 => false
  | k + 1 => b k

/-- how many runs of marks begin below k -/
def rg_bg (b : Nat → Bool) : Nat → Nat
  | 0 => 0
  | k + 1 => if b k = true ∧ rg_bf b k = false then rg_bg b k + 1 else rg_bg b k

theorem rg_pl_s (b : Nat → Bool) (k : Nat) : rg_pl b (k + 1) = if b k = true then rg_pl b k ||| (1 <<< (nI k &&& 31)) else rg_pl b k := rfl

theorem rg_bg_s (b : Nat → Bool) (k : Nat) : rg_bg b (k + 1) = if b k = true ∧ rg_bf b k = false then rg_bg b k + 1 else rg_bg b k := rfl

theorem rg_bg_le (b : Nat → Bool) : ∀ k, rg_bg b k ≤ k := by
  intro k
  induction k with
  | zero => exact Nat.le_refl 0
  | succ k ih =>
    simp only [rg_bg]
    split
    · omega
    · omega

/-- the things of the set stand together -/
def rg_st (o s : Int32) : Bool := decide (rg_bg (rg_bit o s) 6 < 2)

/-- adding the lowest mark clears all marks just when they are one run -/
theorem rg_carry (b : Nat → Bool) : ((rg_pl b 6 + (rg_pl b 6 &&& (-rg_pl b 6))) &&& rg_pl b 6) = 0 ↔ rg_bg b 6 < 2 := by
  simp only [rg_pl, rg_bg, rg_bf]
  cases b 0 <;> cases b 1 <;> cases b 2 <;> cases b 3 <;> cases b 4 <;> cases b 5 <;> decide +kernel

/-- the empty set stands together -/
theorem rg_bit0 (o : Int32) (i : Nat) : rg_bit o 0 i = false := by
  unfold rg_bit
  rw [Int32.zero_shiftRight]
  decide

theorem rg_st0 (o : Int32) : rg_st o 0 = true := by
  have e : rg_bit o 0 = fun _ => false := funext (rg_bit0 o)
  unfold rg_st
  rw [e]
  decide

/-- all demands below c stand -/
def rg_gd (s : Nat → Int32) (o : Int32) : Nat → Bool
  | 0 => true
  | c + 1 => rg_gd s o c && rg_st o (s c)

theorem rg_gd_s (s : Nat → Int32) (o : Int32) (c : Nat) : rg_gd s o (c + 1) = (rg_gd s o c && rg_st o (s c)) := rfl

theorem rg_gd_iff (s : Nat → Int32) (o : Int32) : ∀ c, rg_gd s o c = true ↔ ∀ d, d < c → rg_st o (s d) = true := by
  intro c
  induction c with
  | zero => exact ⟨fun _ d h => absurd h (Nat.not_lt_zero d), fun _ => rfl⟩
  | succ c ih =>
    simp only [rg_gd, Bool.and_eq_true]
    constructor
    · intro h d hd
      rcases Nat.lt_or_eq_of_le (Nat.le_of_lt_succ hd) with h1 | h1
      · exact ih.mp h.1 d h1
      · rw [h1]; exact h.2
    · intro h
      exact ⟨ih.mpr fun d hd => h d (Nat.lt_succ_of_lt hd), h c (Nat.lt_succ_self c)⟩

theorem rg_gd_congr {s s' : Nat → Int32} {o : Int32} {c : Nat} (h : ∀ d, d < c → s d = s' d) : rg_gd s o c = rg_gd s' o c := by
  induction c with
  | zero => rfl
  | succ c ih =>
    simp only [rg_gd]
    rw [ih fun d hd => h d (Nat.lt_succ_of_lt hd), h c (Nat.lt_succ_self c)]

/-- a mark as an int -/
def rg_B (b : Bool) : Int32 := if b = true then 1 else 0

theorem rg_B1 {b : Bool} (h : ¬ rg_B b = 0) : b = true := by
  cases b
  · exact absurd rfl h
  · rfl

theorem rg_B0 {b : Bool} (h : rg_B b = 0) : b = false := by
  cases b
  · rfl
  · exact absurd h (by decide)

/-- how many below k -/
def rg_cnt (p : Nat → Bool) : Nat → Nat
  | 0 => 0
  | k + 1 => if p k = true then rg_cnt p k + 1 else rg_cnt p k

theorem rg_cnt_s (p : Nat → Bool) (k : Nat) : rg_cnt p (k + 1) = if p k = true then rg_cnt p k + 1 else rg_cnt p k := rfl

theorem rg_cnt_le (p : Nat → Bool) : ∀ k, rg_cnt p k ≤ k := by
  intro k
  induction k with
  | zero => exact Nat.le_refl 0
  | succ k ih =>
    simp only [rg_cnt]
    split
    · omega
    · omega

theorem rg_cnt_congr {p q : Nat → Bool} : ∀ {k : Nat}, (∀ n, n < k → p n = q n) → rg_cnt p k = rg_cnt q k := by
  intro k
  induction k with
  | zero => intro _; rfl
  | succ k ih =>
    intro h
    simp only [rg_cnt]
    rw [ih fun n hn => h n (Nat.lt_succ_of_lt hn), h k (Nat.lt_succ_self k)]

theorem rg_cnt_pos {p : Nat → Bool} : ∀ {k : Nat}, ¬ rg_cnt p k = 0 ↔ ∃ n, n < k ∧ p n = true := by
  intro k
  induction k with
  | zero => exact ⟨fun h => absurd rfl h, fun ⟨n, h, _⟩ => absurd h (Nat.not_lt_zero n)⟩
  | succ k ih =>
    simp only [rg_cnt]
    split
    · rename_i hp
      exact ⟨fun _ => ⟨k, Nat.lt_succ_self k, hp⟩, fun _ => Nat.succ_ne_zero _⟩
    · rename_i hp
      rw [ih]
      constructor
      · rintro ⟨n, hn, h⟩
        exact ⟨n, Nat.lt_succ_of_lt hn, h⟩
      · rintro ⟨n, hn, h⟩
        rcases Nat.lt_or_eq_of_le (Nat.le_of_lt_succ hn) with h1 | h1
        · exact ⟨n, h1, h⟩
        · rw [h1] at h; exact absurd h hp

theorem rg_two (P Q : Bool) (A B : Nat) (h : A ≤ B) : (((if (P && Q) = true then A + 1 else A) = if P = true then B + 1 else B) ↔ A = B ∧ (P = true → Q = true)) ∧ (if (P && Q) = true then A + 1 else A) ≤ if P = true then B + 1 else B := by
  cases P <;> cases Q <;> simp <;> omega

/-- the count with a second condition is the whole count just when the first gives the second -/
theorem rg_cnt_all {p q : Nat → Bool} : ∀ {k : Nat}, (rg_cnt (fun n => p n && q n) k = rg_cnt p k ↔ ∀ n, n < k → p n = true → q n = true) ∧ rg_cnt (fun n => p n && q n) k ≤ rg_cnt p k := by
  intro k
  induction k with
  | zero => exact ⟨⟨fun _ n h => absurd h (Nat.not_lt_zero n), fun _ => rfl⟩, Nat.le_refl 0⟩
  | succ k ih =>
    obtain ⟨ih1, ih2⟩ := ih
    have hs : (∀ n, n < k + 1 → p n = true → q n = true) ↔ (∀ n, n < k → p n = true → q n = true) ∧ (p k = true → q k = true) := by
      constructor
      · intro h
        exact ⟨fun n hn => h n (Nat.lt_succ_of_lt hn), h k (Nat.lt_succ_self k)⟩
      · rintro ⟨h1, h2⟩ n hn
        rcases Nat.lt_or_eq_of_le (Nat.le_of_lt_succ hn) with h | h
        · exact h1 n h
        · rw [h]; exact h2
    rw [hs, ← ih1]
    simp only [rg_cnt]
    exact rg_two (p k) (q k) _ _ ih2

/-- a thing 0 to 7 is in the set of t alone just when it is t -/
theorem rg_one : ∀ t : Nat, t < 6 → ∀ a : Nat, a < 8 → ((((1 : Int32) <<< (nI t &&& 31)) >>> (nI a &&& 31)) &&& 1 = 1 ↔ nI a = nI t) := by
  decide +kernel

theorem rg_at_nat (o i : Int32) : ∃ a : Nat, a < 8 ∧ rg_at o i = nI a := pk_andE (o >>> ((3 * i) &&& 31)) (m := 7) 3 (by decide)

theorem rg_bit1 (o : Int32) {t : Nat} (ht : t < 6) (i : Nat) : rg_bit o ((1 : Int32) <<< (nI t &&& 31)) i = decide (rg_at o (nI i) = nI t) := by
  obtain ⟨a, ha, e⟩ := rg_at_nat o (nI i)
  unfold rg_bit
  rw [e]
  exact decide_eq_decide.mpr (rg_one t ht a ha)

/-- or'ing place by place onto f is or'ing the whole onto f -/
def rg_plf (f : Int32) (b : Nat → Bool) : Nat → Int32
  | 0 => f
  | k + 1 => if b k = true then rg_plf f b k ||| (1 <<< (nI k &&& 31)) else rg_plf f b k

theorem rg_plf_s (f : Int32) (b : Nat → Bool) (k : Nat) : rg_plf f b (k + 1) = if b k = true then rg_plf f b k ||| (1 <<< (nI k &&& 31)) else rg_plf f b k := rfl

theorem rg_plf_eq (f : Int32) (b : Nat → Bool) : ∀ k, rg_plf f b k = f ||| rg_pl b k := by
  intro k
  induction k with
  | zero => simp [rg_plf, rg_pl]
  | succ k ih =>
    simp only [rg_plf, rg_pl]
    split
    · rw [ih, Int32.or_assoc]
    · exact ih

/-- a last one below k -/
theorem rg_last (P : Nat → Prop) : ∀ k, (∃ n, n < k ∧ P n) → ∃ n, n < k ∧ P n ∧ ∀ j, n < j → j < k → ¬ P j := by
  intro k
  induction k with
  | zero => rintro ⟨n, h, _⟩; exact absurd h (Nat.not_lt_zero n)
  | succ k ih =>
    rintro ⟨n, hn, h⟩
    by_cases hk : P k
    · exact ⟨k, Nat.lt_succ_self k, hk, fun j h1 h2 => absurd h2 (by omega)⟩
    · have hn' : n < k := by
        rcases Nat.lt_or_eq_of_le (Nat.le_of_lt_succ hn) with h1 | h1
        · exact h1
        · rw [h1] at h; exact absurd h hk
      obtain ⟨m, hm, hP, hl⟩ := ih ⟨n, hn', h⟩
      refine ⟨m, Nat.lt_succ_of_lt hm, hP, fun j h1 h2 => ?_⟩
      rcases Nat.lt_or_eq_of_le (Nat.le_of_lt_succ h2) with h3 | h3
      · exact hl j h1 h3
      · rw [h3]; exact hk

/-- or'ing together what the marked ones give -/
def rg_acc (p : Nat → Bool) (v : Nat → Int32) : Nat → Int32
  | 0 => 0
  | k + 1 => if p k = true then rg_acc p v k ||| v k else rg_acc p v k

theorem rg_acc_t {p : Nat → Bool} {k : Nat} (v : Nat → Int32) (h : p k = true) : rg_acc p v k ||| v k = rg_acc p v (k + 1) := (if_pos h).symm

theorem rg_acc_f {p : Nat → Bool} {k : Nat} (v : Nat → Int32) (h : p k = false) : rg_acc p v (k + 1) = rg_acc p v k := if_neg (by rw [h]; decide)

theorem rg_cnt_t {p : Nat → Bool} {k : Nat} (h : p k = true) : nI (rg_cnt p k) + 1 = nI (rg_cnt p (k + 1)) := by
  rw [rg_cnt_s, if_pos h, nI_1]

theorem rg_cnt_f {p : Nat → Bool} {k : Nat} (h : p k = false) : rg_cnt p (k + 1) = rg_cnt p k := if_neg (by rw [h]; decide)

/-- the things beside t, over the first k pairs of places -/
def rg_nx (o t : Int32) : Nat → Int32
  | 0 => 0
  | k + 1 =>
    if rg_at o (nI (k + 1)) = t then (if rg_at o (nI k) = t then rg_nx o t k ||| ((1 : Int32) <<< (rg_at o (nI (k + 1)) &&& 31)) else rg_nx o t k) ||| ((1 : Int32) <<< (rg_at o (nI k) &&& 31))
    else (if rg_at o (nI k) = t then rg_nx o t k ||| ((1 : Int32) <<< (rg_at o (nI (k + 1)) &&& 31)) else rg_nx o t k)

theorem rg_nx_tt {o t : Int32} {k : Nat} (h1 : rg_at o (nI k) = t) (h2 : rg_at o (nI (k + 1)) = t) : (rg_nx o t k ||| ((1 : Int32) <<< (rg_at o (nI (k + 1)) &&& 31))) ||| ((1 : Int32) <<< (rg_at o (nI k) &&& 31)) = rg_nx o t (k + 1) := by
  rw [rg_nx, if_pos h2, if_pos h1]

theorem rg_nx_tf {o t : Int32} {k : Nat} (h1 : rg_at o (nI k) = t) (h2 : ¬ rg_at o (nI (k + 1)) = t) : rg_nx o t k ||| ((1 : Int32) <<< (rg_at o (nI (k + 1)) &&& 31)) = rg_nx o t (k + 1) := by
  rw [rg_nx, if_neg h2, if_pos h1]

theorem rg_nx_ft {o t : Int32} {k : Nat} (h1 : ¬ rg_at o (nI k) = t) (h2 : rg_at o (nI (k + 1)) = t) : rg_nx o t k ||| ((1 : Int32) <<< (rg_at o (nI k) &&& 31)) = rg_nx o t (k + 1) := by
  rw [rg_nx, if_pos h2, if_neg h1]

theorem rg_nx_ff {o t : Int32} {k : Nat} (h1 : ¬ rg_at o (nI k) = t) (h2 : ¬ rg_at o (nI (k + 1)) = t) : rg_nx o t k = rg_nx o t (k + 1) := by
  rw [rg_nx, if_neg h2, if_neg h1]

/-- a mark goes into an array of marks as it is -/
theorem rg_nar (b : Bool) : vp_nar .boolean (rg_B b) = rg_B b := by
  cases b
  · decide
  · decide

theorem rg_cl {j : Nat} (h : j < 720) : (nI j).toNatClampNeg = j := nI_clamp (by omega)
theorem rg_in {j : Nat} (h : j < 720) : vp_in (nI j) 720 := vp_in_nI h (by decide)
theorem rg_n720 {j : Nat} (h : j < 720) : ¬ (720 : Int32) ≤ nI j := nI_ge (b := 720) h (by decide)
theorem rg_y720 : (720 : Int32) ≤ nI 720 := nI_le (a := 720) (b := 720) (Nat.le_refl _) (by decide)
theorem rg_n6 {j : Nat} (h : j < 6) : ¬ (6 : Int32) ≤ nI j := nI_ge (b := 6) h (by decide)
theorem rg_y6 : (6 : Int32) ≤ nI 6 := nI_le (a := 6) (b := 6) (Nat.le_refl _) (by decide)
