section
/-! rows pasted from kit/rows (PURE-ROWS, BITS) -/
theorem pk_us {f : Nat → Int32} {k : Nat} {x : Int32} : upd f k x k = x := if_pos rfl
theorem pk_un {f : Nat → Int32} {k j : Nat} {x : Int32} (h : j ≠ k) : upd f k x j = f j := if_neg h
theorem pk_sub {a b : Nat} (h : b ≤ a) : nI a - nI b = nI (a - b) := by
  obtain ⟨c, rfl⟩ : ∃ c, a = c + b := ⟨a - b, by omega⟩
  rw [← nI_add, Int32.add_sub_cancel, Nat.add_sub_cancel]
theorem pk_m1 (n : Nat) : nI (n + 1) + (-1) = nI n := by
  rw [← nI_1, Int32.add_assoc, show (1 : Int32) + (-1) = 0 from rfl, Int32.add_zero]
theorem pk_mul (a b : Nat) : nI a * nI b = nI (a * b) := (Int32.ofNat_mul a b).symm
theorem pk_div {a d : Nat} (ha : a < 2 ^ 31) (h0 : 0 < d) (hd : d < 2 ^ 31) : nI a / nI d = nI (a / d) := by
  apply Int32.toInt_inj.mp
  rw [lg_idiv_nonneg (by rw [nI_toInt ha]; omega) (by rw [nI_toInt hd]; omega), nI_toInt ha, nI_toInt hd, nI_toInt (Nat.lt_of_le_of_lt (Nat.div_le_self a d) ha)]
  first | rfl | exact (Int.natCast_ediv _ _).symm
theorem pk_rem {a d : Nat} (ha : a < 2 ^ 31) (h0 : 0 < d) (hd : d < 2 ^ 31) : nI a - nI a / nI d * nI d = nI (a % d) := by
  rw [pk_div ha h0 hd, pk_mul, pk_sub (Nat.div_mul_le_self a d)]
  exact congrArg nI (by have := Nat.div_add_mod' a d; omega)
theorem pk_ix (x : Int32) {n : Nat} (hn : n < 2 ^ 31) : x < 0 ∨ nI n ≤ x ∨ ∃ j : Nat, j < n ∧ x = nI j := by
  by_cases h : x < 0
  · exact Or.inl h
  · obtain ⟨j, hj, rfl⟩ := nI_of h
    by_cases h2 : j < n
    · exact Or.inr (Or.inr ⟨j, h2, rfl⟩)
    · exact Or.inr (Or.inl (nI_le (by omega) hj))
theorem pk_le {x y : Int32} {A B : Prop} (a b : Nat) (f : a ≤ b → A) (g : b < a → B) (hx : x = nI a := by rfl) (hy : y = nI b := by rfl) (ha : a < 2 ^ 31 := by omega) (hb : b < 2 ^ 31 := by omega) : (x ≤ y → A) ∧ (¬ x ≤ y → B) := by
  subst hx hy
  rw [nI_leI ha hb]
  exact ⟨f, fun z => g (by omega)⟩
theorem pk_lt {x y : Int32} {A B : Prop} (a b : Nat) (f : a < b → A) (g : b ≤ a → B) (hx : x = nI a := by rfl) (hy : y = nI b := by rfl) (ha : a < 2 ^ 31 := by omega) (hb : b < 2 ^ 31 := by omega) : (x < y → A) ∧ (¬ x < y → B) := by
  subst hx hy
  rw [nI_ltI ha hb]
  exact ⟨f, fun z => g (by omega)⟩
theorem pk_eq {x y : Int32} {A B : Prop} (a b : Nat) (f : a = b → A) (g : a ≠ b → B) (hx : x = nI a := by rfl) (hy : y = nI b := by rfl) (ha : a < 2 ^ 31 := by omega) (hb : b < 2 ^ 31 := by omega) : (x = y → A) ∧ (¬ x = y → B) := by
  subst hx hy
  rw [nI_eq ha hb]
  exact ⟨f, g⟩
theorem pk_in {x : Int32} (n N : Nat) (h : n < N) (hx : x = nI n := by rfl) (hN : N < 2 ^ 31 := by omega) : vp_in x N := by
  subst hx
  exact vp_in_nI h hN
theorem pk_cl {x : Int32} (n : Nat) (hx : x = nI n := by rfl) (h : n < 2 ^ 31 := by omega) : x.toNatClampNeg = n := by
  subst hx
  exact nI_clamp h
theorem pk_loop {σ : Type} (W : Nat → Nat → σ → Prop) (I : Nat → σ → Prop) (e i0 : Nat) (s : σ) (hi : i0 ≤ e) (h0 : I i0 s) (hx : ∀ n s, I e s → W (n + 1) e s)
    (hs : ∀ n i s, i < e → I i s → (∀ s', I (i + 1) s' → W n (i + 1) s') → W (n + 1) i s) : ∃ n, W n i0 s :=
  ⟨e + 1, loop_i W I e hx hs (e + 1) i0 s hi (by omega) h0⟩
def bt (x : Int32) (i : Nat) : Bool := x.toBitVec.getLsbD i
theorem b_ext {x y : Int32} (h : ∀ i, i < 32 → bt x i = bt y i) : x = y := Int32.toBitVec_inj.mp (BitVec.eq_of_getLsbD_eq (fun i hi => h i hi))
theorem b_or (x y : Int32) (i : Nat) : bt (x ||| y) i = (bt x i || bt y i) := by unfold bt; rw [Int32.toBitVec_or, BitVec.getLsbD_or]
theorem b_and (x y : Int32) (i : Nat) : bt (x &&& y) i = (bt x i && bt y i) := by unfold bt; rw [Int32.toBitVec_and, BitVec.getLsbD_and]
theorem b_big {x : Int32} {i : Nat} (h : 32 ≤ i) : bt x i = false := BitVec.getLsbD_of_ge _ _ h
theorem b_0 (i : Nat) : bt 0 i = false := BitVec.getLsbD_zero
theorem s_l : ∀ n, n < 32 → ((nI n &&& 31).toBitVec.smod 32).toNat = n := by decide +kernel
theorem b_shl (n : Nat) (hn : n < 32) (x : Int32) {i : Nat} (hi : i < 32) : bt (x <<< (nI n &&& 31)) i = (decide (n ≤ i) && bt x (i - n)) := by
  unfold bt
  rw [Int32.toBitVec_shiftLeft]
  show (x.toBitVec <<< ((nI n &&& 31).toBitVec.smod 32).toNat).getLsbD i = _
  rw [s_l n hn, BitVec.getLsbD_shiftLeft]
  rcases Nat.lt_or_ge i n with h | h
  · simp [h, Nat.not_le.mpr h]
  · simp [hi, h, Nat.not_lt.mpr h]
theorem b_sshr (n : Nat) (hn : n < 32) (x : Int32) {i : Nat} (hi : i < 32) : bt (x >>> (nI n &&& 31)) i = if n + i < 32 then bt x (n + i) else bt x 31 := by
  unfold bt
  rw [Int32.toBitVec_shiftRight]
  show (x.toBitVec.sshiftRight ((nI n &&& 31).toBitVec.smod 32).toNat).getLsbD i = _
  rw [s_l n hn, BitVec.getLsbD_sshiftRight, BitVec.msb_eq_getLsbD_last]
  simp [hi]
end
section
/-! sets of numbers 1 to 12, the twelve passes, counting -/
def pg_add (S : Nat → Bool) (q : Nat) : Nat → Bool := fun p => S p || (decide (p ≠ 0) && decide (p = q))
def pg_hx (g : Nat → Nat) (S : Nat → Bool) (k : Nat) : Nat → Bool := if S (k / 2) = true then pg_add S (g k) else S
def pg_ps (g : Nat → Nat) (S : Nat → Bool) : Nat → Nat → Bool
  | 0 => S
  | n + 1 => pg_hx g (pg_ps g S n) (n + 2)
def pg_sp (g : Nat → Nat) (S : Nat → Bool) : Nat → Nat → Bool
  | 0 => S
  | n + 1 => pg_ps g (pg_sp g S n) 24
def pg_cn (S : Nat → Bool) : Nat → Nat
  | 0 => 0
  | n + 1 => pg_cn S n + (if S (n + 1) = true then 1 else 0)
def pg_no : Nat → Bool := fun _ => false
def pg_one (r : Nat) : Nat → Bool := pg_add pg_no r
def pg_hs (hd : Nat → Nat) (S : Nat → Bool) : Nat → Nat → Bool
  | 0 => S
  | n + 1 => pg_add (pg_hs hd S n) (hd n)
def pg_cl (g : Nat → Nat) (L : Nat → Bool) : Prop := ∀ k, 2 ≤ k → k < 26 → L (k / 2) = true → g k ≠ 0 → L (g k) = true
def pg_le (S L : Nat → Bool) : Prop := ∀ p, S p = true → L p = true
/-- the first number from o on, of d numbers, that is not in U; 0 if there is none -/
def pg_ff (U : Nat → Bool) : Nat → Nat → Nat
  | 0, _ => 0
  | d + 1, o => if U o = true then pg_ff U d (o + 1) else o

theorem pg_add_iff {S : Nat → Bool} {q p : Nat} : pg_add S q p = true ↔ S p = true ∨ (p ≠ 0 ∧ p = q) := by
  simp only [pg_add, Bool.or_eq_true, Bool.and_eq_true, decide_eq_true_eq]
theorem pg_add_0 (S : Nat → Bool) : pg_add S 0 = S := by
  funext p
  apply Bool.eq_iff_iff.mpr
  rw [pg_add_iff]
  constructor
  · intro h
    rcases h with h | ⟨h, e⟩
    · exact h
    · exact absurd e h
  · exact Or.inl
theorem pg_add_m {S : Nat → Bool} {q : Nat} : pg_le S (pg_add S q) := fun _ h => pg_add_iff.mpr (Or.inl h)
theorem pg_add_s {S L : Nat → Bool} {q : Nat} (h : pg_le S L) (hq : q ≠ 0 → L q = true) : pg_le (pg_add S q) L := by
  intro p hp
  rcases pg_add_iff.mp hp with hs | ⟨h0, e⟩
  · exact h p hs
  · subst e
    exact hq h0
theorem pg_no_s {L : Nat → Bool} : pg_le pg_no L := fun _ h => absurd h (by simp [pg_no])
theorem pg_one_s {L : Nat → Bool} {q : Nat} (hq : q ≠ 0 → L q = true) : pg_le (pg_one q) L := pg_add_s pg_no_s hq
theorem pg_one_in {q : Nat} (h : q ≠ 0) : pg_one q q = true := pg_add_iff.mpr (Or.inr ⟨h, rfl⟩)
theorem pg_hs_s {S L : Nat → Bool} {hd : Nat → Nat} (h : pg_le S L) : ∀ n, (∀ j, j < n → hd j ≠ 0 → L (hd j) = true) → pg_le (pg_hs hd S n) L := by
  intro n
  induction n with
  | zero => exact fun _ => h
  | succ n ih => exact fun hh => pg_add_s (ih (fun j hj => hh j (by omega))) (hh n (by omega))
theorem pg_hx_iff {g : Nat → Nat} {S : Nat → Bool} {k p : Nat} : pg_hx g S k p = true ↔ S p = true ∨ (S (k / 2) = true ∧ p ≠ 0 ∧ p = g k) := by
  unfold pg_hx
  by_cases h : S (k / 2) = true
  · rw [if_pos h, pg_add_iff]
    constructor
    · rintro (a | a)
      · exact Or.inl a
      · exact Or.inr ⟨h, a⟩
    · rintro (a | a)
      · exact Or.inl a
      · exact Or.inr a.2
  · rw [if_neg h]
    constructor
    · exact Or.inl
    · rintro (a | a)
      · exact a
      · exact absurd a.1 h
theorem pg_hx_m {g : Nat → Nat} {S : Nat → Bool} {k : Nat} : pg_le S (pg_hx g S k) := fun _ h => pg_hx_iff.mpr (Or.inl h)
theorem pg_ps_m {g : Nat → Nat} {S : Nat → Bool} (n : Nat) : pg_le S (pg_ps g S n) := by
  induction n with
  | zero => exact fun _ h => h
  | succ n ih => exact fun p h => pg_hx_m p (ih p h)
theorem pg_sp_m {g : Nat → Nat} {S : Nat → Bool} (n : Nat) : pg_le S (pg_sp g S n) := by
  induction n with
  | zero => exact fun _ h => h
  | succ n ih => exact fun p h => pg_ps_m 24 p (ih p h)
theorem pg_ps_mm {g : Nat → Nat} {S : Nat → Bool} {n : Nat} (d : Nat) : pg_le (pg_ps g S n) (pg_ps g S (n + d)) := by
  induction d with
  | zero => exact fun _ h => h
  | succ d ih => exact fun p h => pg_hx_m p (ih p h)
theorem pg_hx_s {g : Nat → Nat} {S L : Nat → Bool} {k : Nat} (hL : pg_cl g L) (h : pg_le S L) (h2 : 2 ≤ k) (h26 : k < 26) : pg_le (pg_hx g S k) L := by
  intro p hp
  rcases pg_hx_iff.mp hp with hs | ⟨hk, h0, e⟩
  · exact h p hs
  · subst e
    exact hL k h2 h26 (h _ hk) h0
theorem pg_ps_s {g : Nat → Nat} {S L : Nat → Bool} (hL : pg_cl g L) (h : pg_le S L) (n : Nat) : n ≤ 24 → pg_le (pg_ps g S n) L := by
  induction n with
  | zero => exact fun _ => h
  | succ n ih => exact fun hn => pg_hx_s hL (ih (by omega)) (by omega) (by omega)
theorem pg_sp_s {g : Nat → Nat} {S L : Nat → Bool} (hL : pg_cl g L) (h : pg_le S L) (n : Nat) : pg_le (pg_sp g S n) L := by
  induction n with
  | zero => exact h
  | succ n ih => exact pg_ps_s hL ih 24 (Nat.le_refl 24)
theorem pg_hx_i {g : Nat → Nat} {S : Nat → Bool} {k : Nat} (h : S (k / 2) = true → g k ≠ 0 → S (g k) = true) : pg_hx g S k = S := by
  funext p
  apply Bool.eq_iff_iff.mpr
  rw [pg_hx_iff]
  constructor
  · rintro (a | ⟨a, b, c⟩)
    · exact a
    · subst c
      exact h a b
  · exact Or.inl
theorem pg_ps_i {g : Nat → Nat} {S : Nat → Bool} (h : pg_cl g S) (n : Nat) : n ≤ 24 → pg_ps g S n = S := by
  induction n with
  | zero => exact fun _ => rfl
  | succ n ih =>
    intro hn
    show pg_hx g (pg_ps g S n) (n + 2) = S
    rw [ih (by omega)]
    exact pg_hx_i (h (n + 2) (by omega) (by omega))
theorem pg_cn_m {S T : Nat → Bool} (h : pg_le S T) (n : Nat) : pg_cn S n ≤ pg_cn T n := by
  induction n with
  | zero => exact Nat.le_refl 0
  | succ n ih =>
    show pg_cn S n + (if S (n + 1) = true then 1 else 0) ≤ pg_cn T n + (if T (n + 1) = true then 1 else 0)
    by_cases a : S (n + 1) = true
    · rw [if_pos a, if_pos (h _ a)]
      omega
    · rw [if_neg a]
      omega
theorem pg_cn_l {S T : Nat → Bool} (h : pg_le S T) {q : Nat} (h1 : 1 ≤ q) (hT : T q = true) (hS : ¬ S q = true) (n : Nat) : q ≤ n → pg_cn S n < pg_cn T n := by
  induction n with
  | zero => intro hq; omega
  | succ n ih =>
    intro hq
    show pg_cn S n + (if S (n + 1) = true then 1 else 0) < pg_cn T n + (if T (n + 1) = true then 1 else 0)
    by_cases e : q = n + 1
    · rw [← e, if_neg hS, if_pos hT]
      have := pg_cn_m h n
      omega
    · have hi := ih (by omega)
      by_cases a : S (n + 1) = true
      · rw [if_pos a, if_pos (h _ a)]
        omega
      · rw [if_neg a]
        omega
theorem pg_cn_b (S : Nat → Bool) (n : Nat) : pg_cn S n ≤ n := by
  induction n with
  | zero => exact Nat.le_refl 0
  | succ n ih =>
    show pg_cn S n + (if S (n + 1) = true then 1 else 0) ≤ n + 1
    by_cases a : S (n + 1) = true
    · rw [if_pos a]
      omega
    · rw [if_neg a]
      omega
theorem pg_cn_f {S : Nat → Bool} (n : Nat) : n ≤ pg_cn S n → ∀ q, 1 ≤ q → q ≤ n → S q = true := by
  induction n with
  | zero => intro _ q h1 h2; omega
  | succ n ih =>
    intro h q h1 h2
    have hh : n + 1 ≤ pg_cn S n + (if S (n + 1) = true then 1 else 0) := h
    have hb := pg_cn_b S n
    by_cases a : S (n + 1) = true
    · rw [if_pos a] at hh
      by_cases e : q = n + 1
      · rw [e]
        exact a
      · exact ih (by omega) q h1 (by omega)
    · rw [if_neg a] at hh
      omega
theorem pg_sp_g {g : Nat → Nat} {S : Nat → Bool} (hb : ∀ k, g k ≤ 12) (n : Nat) : n ≤ pg_cn (pg_sp g S n) 12 ∨ pg_cl g (pg_sp g S n) := by
  induction n with
  | zero => exact Or.inl (Nat.zero_le _)
  | succ n ih =>
    by_cases hc : pg_cl g (pg_sp g S n)
    · refine Or.inr ?_
      show pg_cl g (pg_ps g (pg_sp g S n) 24)
      rw [pg_ps_i hc 24 (Nat.le_refl 24)]
      exact hc
    · refine Or.inl (Classical.byContradiction fun hlt => hc ?_)
      intro k h2 h26 hk h0
      refine Classical.byContradiction fun hn => hlt ?_
      have hin : pg_ps g (pg_sp g S n) 24 (g k) = true := by
        obtain ⟨m, rfl⟩ : ∃ m, k = m + 2 := ⟨k - 2, by omega⟩
        have h1 : pg_ps g (pg_sp g S n) (m + 1) (g (m + 2)) = true := pg_hx_iff.mpr (Or.inr ⟨pg_ps_m m _ hk, h0, rfl⟩)
        have h3 := pg_ps_mm (n := m + 1) (24 - (m + 1)) _ h1
        rw [show m + 1 + (24 - (m + 1)) = 24 by omega] at h3
        exact h3
      have hlt2 := pg_cn_l (S := pg_sp g S n) (pg_ps_m 24) (q := g k) (by omega) hin hn 12 (hb k)
      show n + 1 ≤ pg_cn (pg_ps g (pg_sp g S n) 24) 12
      rcases ih with h | h
      · omega
      · exact absurd h hc
theorem pg_sp_cl {g : Nat → Nat} {S : Nat → Bool} (hb : ∀ k, g k ≤ 12) : pg_cl g (pg_sp g S 12) := by
  rcases pg_sp_g (S := S) hb 12 with h | h
  · intro k _ _ _ h0
    exact pg_cn_f 12 h (g k) (by omega) (hb k)
  · exact h
theorem pg_ff_b (U : Nat → Bool) (d : Nat) : ∀ o, pg_ff U d o ≠ 0 → o ≤ pg_ff U d o ∧ pg_ff U d o < o + d := by
  induction d with
  | zero => intro o h; exact absurd rfl h
  | succ d ih =>
    intro o
    show (if U o = true then pg_ff U d (o + 1) else o) ≠ 0 → o ≤ (if U o = true then pg_ff U d (o + 1) else o) ∧ (if U o = true then pg_ff U d (o + 1) else o) < o + (d + 1)
    by_cases a : U o = true
    · rw [if_pos a]
      intro h
      have := ih (o + 1) h
      omega
    · rw [if_neg a]
      intro _
      omega
end
section
/-! the class's marks (an array of 0 and 1) and the reference's bits against a set -/
def pg_A (b : Nat → Int32) (S : Nat → Bool) : Prop := ∀ p, 1 ≤ p → p ≤ 12 → b p = if S p = true then 1 else 0
def pg_B (z : Int32) (S : Nat → Bool) : Prop := ∀ p, p < 12 → bt z p = S (p + 1)
/-- the reference's number for the class's number: one less, -1 for nothing -/
def pg_m : Nat → Int32
  | 0 => -1
  | n + 1 => nI n
def pg_bit : Nat → Int32
  | 0 => 0
  | n + 1 => (1 : Int32) <<< (nI n &&& 31)
theorem pg_nb1 : vp_nar .boolean 1 = 1 := rfl
theorem pg_nb0 : vp_nar .boolean 0 = 0 := rfl
theorem pg_A_add {b : Nat → Int32} {S : Nat → Bool} (h : pg_A b S) (q : Nat) : pg_A (upd b q 1) (pg_add S q) := by
  intro p h1 h2
  by_cases e : p = q
  · subst e
    rw [pk_us, if_pos (pg_add_iff.mpr (Or.inr ⟨by omega, rfl⟩))]
  · rw [pk_un e, h p h1 h2]
    by_cases s : S p = true
    · rw [if_pos s, if_pos (pg_add_m p s)]
    · rw [if_neg s, if_neg]
      intro a
      rcases pg_add_iff.mp a with c | c
      · exact s c
      · exact e c.2
theorem pg_A_no {b : Nat → Int32} (h : ∀ p, p < 13 → b p = 0) : pg_A b pg_no := fun p _ h2 => by
  rw [h p (by omega), if_neg (by simp [pg_no])]
theorem pg_A_1 {b : Nat → Int32} {S : Nat → Bool} (h : pg_A b S) {p : Nat} (h1 : 1 ≤ p) (h2 : p ≤ 12) (s : S p = true) : b p = 1 := by
  rw [h p h1 h2, if_pos s]
theorem pg_A_0 {b : Nat → Int32} {S : Nat → Bool} (h : pg_A b S) {p : Nat} (h1 : 1 ≤ p) (h2 : p ≤ 12) (s : ¬ S p = true) : b p = 0 := by
  rw [h p h1 h2, if_neg s]
theorem pg_A_z {b : Nat → Int32} {S : Nat → Bool} (h : pg_A b S) {p : Nat} (h1 : 1 ≤ p) (h2 : p ≤ 12) : b p = 0 ↔ ¬ S p = true := by
  rw [h p h1 h2]
  by_cases s : S p = true
  · rw [if_pos s]
    exact ⟨fun e => absurd e (by decide), fun n => absurd s n⟩
  · rw [if_neg s]
    exact ⟨fun _ => s, fun _ => rfl⟩
theorem pg_b1 (i : Nat) : bt 1 i = decide (i = 0) := by
  rcases Nat.lt_or_ge i 32 with h | h
  · exact (by decide +kernel : ∀ i, i < 32 → bt 1 i = decide (i = 0)) i h
  · rw [b_big h, decide_eq_false (by omega)]
theorem pg_in {z : Int32} {o : Nat} (ho : o < 32) : (z >>> (nI o &&& 31)) &&& 1 = if bt z o = true then 1 else 0 := by
  apply b_ext
  intro i hi
  rw [b_and, b_sshr o ho z hi, pg_b1]
  by_cases e : i = 0
  · subst e
    rw [if_pos (show o + 0 < 32 by omega), Nat.add_zero]
    by_cases s : bt z o = true
    · rw [if_pos s, s]
      rfl
    · rw [if_neg s, show bt z o = false from by simpa using s]
      rfl
  · rw [decide_eq_false e, Bool.and_false]
    by_cases s : bt z o = true
    · rw [if_pos s, pg_b1, decide_eq_false e]
    · rw [if_neg s, b_0]
theorem pg_in1 {z : Int32} {o : Nat} (ho : o < 32) : (z >>> (nI o &&& 31)) &&& 1 = 1 ↔ bt z o = true := by
  rw [pg_in ho]
  by_cases s : bt z o = true
  · rw [if_pos s]
    exact ⟨fun _ => s, fun _ => rfl⟩
  · rw [if_neg s]
    exact ⟨fun e => absurd e (by decide), fun n => absurd n s⟩
theorem pg_B_in {z : Int32} {S : Nat → Bool} (h : pg_B z S) {o : Nat} (ho : o < 12) : (z >>> (nI o &&& 31)) &&& 1 = 1 ↔ S (o + 1) = true := by
  rw [pg_in1 (by omega), h o ho]
theorem pg_bit_b (q : Nat) (hq : q ≤ 12) {i : Nat} (hi : i < 32) : bt (pg_bit q) i = decide (i + 1 = q) := by
  match q, hq with
  | 0, _ => exact (b_0 i).trans (decide_eq_false (by omega)).symm
  | q + 1, hq =>
    show bt ((1 : Int32) <<< (nI q &&& 31)) i = _
    rw [b_shl q (by omega) 1 hi, pg_b1, ← Bool.decide_and]
    exact decide_eq_decide.mpr (by omega)
theorem pg_B_add {z : Int32} {S : Nat → Bool} (h : pg_B z S) {q : Nat} (hq : q ≤ 12) : pg_B (z ||| pg_bit q) (pg_add S q) := by
  intro p hp
  rw [b_or, pg_bit_b q hq (by omega), h p hp]
  show (S (p + 1) || decide (p + 1 = q)) = (S (p + 1) || (decide (p + 1 ≠ 0) && decide (p + 1 = q)))
  rw [decide_eq_true (show p + 1 ≠ 0 by omega), Bool.true_and]
theorem pg_B_0 : pg_B 0 pg_no := fun p _ => b_0 p
theorem pg_B_one {q : Nat} (hq : q ≤ 12) : pg_B (pg_bit q) (pg_one q) := by
  intro p hp
  rw [pg_bit_b q hq (by omega)]
  show decide (p + 1 = q) = (false || (decide (p + 1 ≠ 0) && decide (p + 1 = q)))
  rw [decide_eq_true (show p + 1 ≠ 0 by omega), Bool.true_and, Bool.false_or]
theorem pg_B_or {z w : Int32} {S T : Nat → Bool} (h : pg_B z S) (k : pg_B w T) : pg_B (z ||| w) (fun p => S p || T p) := by
  intro p hp
  rw [b_or, h p hp, k p hp]
theorem pg_m_neg {q : Nat} (hq : q ≤ 12) : pg_m q < 0 ↔ q = 0 := by
  match q, hq with
  | 0, _ => exact ⟨fun _ => rfl, fun _ => by decide⟩
  | q + 1, hq => exact ⟨fun h => absurd h (nI_pos (by omega)), fun h => by omega⟩
theorem pg_m_ge {q : Nat} (hq : q ≤ 12) : 0 ≤ pg_m q ↔ q ≠ 0 := by
  match q, hq with
  | 0, _ => exact ⟨fun h => absurd h (by decide), fun h => absurd rfl h⟩
  | q + 1, hq => exact ⟨fun _ => by omega, fun _ => nI_pos' (by omega)⟩
theorem pg_m_eq {a b : Nat} (ha : a ≤ 12) (hb : b ≤ 12) : pg_m a = pg_m b ↔ a = b := by
  match a, b, ha, hb with
  | 0, 0, _, _ => exact ⟨fun _ => rfl, fun _ => rfl⟩
  | 0, b + 1, _, hb => exact ⟨fun h => absurd (show nI b < 0 from (show nI b = -1 from h.symm) ▸ (by decide : (-1 : Int32) < 0)) (nI_pos (by omega)), fun h => by omega⟩
  | a + 1, 0, ha, _ => exact ⟨fun h => absurd (show nI a < 0 from (show nI a = -1 from h) ▸ (by decide : (-1 : Int32) < 0)) (nI_pos (by omega)), fun h => by omega⟩
  | a + 1, b + 1, ha, hb =>
    show nI a = nI b ↔ _
    rw [nI_eq (by omega) (by omega)]
    omega
theorem pg_m_s {q : Nat} (h : q ≠ 0) : pg_m q = nI (q - 1) := by
  match q, h with
  | 0, h => exact absurd rfl h
  | q + 1, _ => rfl
theorem pg_bit_s {q : Nat} (h : q ≠ 0) : pg_bit q = (1 : Int32) <<< (nI (q - 1) &&& 31) := by
  match q, h with
  | 0, h => exact absurd rfl h
  | q + 1, _ => rfl
end
section
/-! what each side's arrays hold of the pure state, on a set L of numbers -/
def pg_H (a : Nat → Int32) (hd : Nat → Nat) : Prop := ∀ j, j < 4 → a j = nI (hd j)
def pg_K (a : Nat → Int32) (hd : Nat → Nat) : Prop := ∀ j, j < 4 → a j = pg_m (hd j)
def pg_V (a va : Nat → Int32) (L : Nat → Bool) : Prop := ∀ o, 1 ≤ o → o ≤ 12 → L o = true → a o = va o
def pg_W (a va : Nat → Int32) (L : Nat → Bool) : Prop := ∀ i, i < 12 → L (i + 1) = true → a i = va (i + 1)
def pg_G (a : Nat → Int32) (g : Nat → Nat) (L : Nat → Bool) : Prop := ∀ k, 2 ≤ k → k < 26 → L (k / 2) = true → a k = nI (g k)
def pg_T (a : Nat → Int32) (g : Nat → Nat) (L : Nat → Bool) : Prop := ∀ i, i < 24 → L (i / 2 + 1) = true → a i = pg_m (g (i + 2))
def pg_u (f : Nat → Nat) (k x : Nat) : Nat → Nat := fun j => if j = k then x else f j
theorem pg_us {f : Nat → Nat} {k x : Nat} : pg_u f k x k = x := if_pos rfl
theorem pg_un {f : Nat → Nat} {k j x : Nat} (h : j ≠ k) : pg_u f k x j = f j := if_neg h
def pg_I (r : Nat) (hd g : Nat → Nat) (L : Nat → Bool) (cr : Nat) (cg : Nat → Nat) : Prop :=
  r ≤ 12 ∧ (∀ j, hd j ≤ 12) ∧ (∀ k, g k ≤ 12) ∧ cr ≤ 12 ∧ (∀ k, cg k ≤ 12) ∧ pg_cl g L ∧ (r ≠ 0 → L r = true) ∧ (∀ j, j < 4 → hd j ≠ 0 → L (hd j) = true)
theorem pg_ub {f : Nat → Nat} {k x : Nat} (h : ∀ j, f j ≤ 12) (hx : x ≤ 12) : ∀ j, pg_u f k x j ≤ 12 := by
  intro j
  by_cases e : j = k
  · subst e
    rw [pg_us]
    exact hx
  · rw [pg_un e]
    exact h j
theorem pg_H_u {a : Nat → Int32} {hd : Nat → Nat} (h : pg_H a hd) (q x : Nat) : pg_H (upd a q (nI x)) (pg_u hd q x) := by
  intro j hj
  by_cases e : j = q
  · subst e
    rw [pk_us, pg_us]
  · rw [pk_un e, pg_un e]
    exact h j hj
theorem pg_K_u {a : Nat → Int32} {hd : Nat → Nat} (h : pg_K a hd) (q x : Nat) : pg_K (upd a q (pg_m x)) (pg_u hd q x) := by
  intro j hj
  by_cases e : j = q
  · subst e
    rw [pk_us, pg_us]
  · rw [pk_un e, pg_un e]
    exact h j hj
theorem pg_hd_u {hd : Nat → Nat} {L : Nat → Bool} (h : ∀ j, j < 4 → hd j ≠ 0 → L (hd j) = true) {q x : Nat} (hx : x ≠ 0 → L x = true) : ∀ j, j < 4 → pg_u hd q x j ≠ 0 → L (pg_u hd q x j) = true := by
  intro j hj
  by_cases e : j = q
  · subst e
    rw [pg_us]
    exact hx
  · rw [pg_un e]
    exact h j hj
theorem pg_V_u {a va : Nat → Int32} {L : Nat → Bool} (h : pg_V a va L) (o : Nat) (x : Int32) : pg_V (upd a o x) (upd va o x) L := by
  intro p h1 h2 hp
  by_cases e : p = o
  · subst e
    rw [pk_us, pk_us]
  · rw [pk_un e, pk_un e]
    exact h p h1 h2 hp
theorem pg_W_u {a va : Nat → Int32} {L : Nat → Bool} (h : pg_W a va L) (o : Nat) (x : Int32) : pg_W (upd a o x) (upd va (o + 1) x) L := by
  intro p h1 hp
  by_cases e : p = o
  · subst e
    rw [pk_us, pk_us]
  · rw [pk_un e, pk_un (show p + 1 ≠ o + 1 by omega)]
    exact h p h1 hp
theorem pg_G_u {a : Nat → Int32} {g : Nat → Nat} {L : Nat → Bool} (h : pg_G a g L) (q x : Nat) : pg_G (upd a q (nI x)) (pg_u g q x) L := by
  intro k h1 h2 hk
  by_cases e : k = q
  · subst e
    rw [pk_us, pg_us]
  · rw [pk_un e, pg_un e]
    exact h k h1 h2 hk
theorem pg_T_u {a : Nat → Int32} {g : Nat → Nat} {L : Nat → Bool} (h : pg_T a g L) (q x : Nat) : pg_T (upd a q (pg_m x)) (pg_u g (q + 2) x) L := by
  intro k h1 hk
  by_cases e : k = q
  · subst e
    rw [pk_us, pg_us]
  · rw [pk_un e, pg_un (show k + 2 ≠ q + 2 by omega)]
    exact h k h1 hk
theorem pg_cl_u {g : Nat → Nat} {L : Nat → Bool} (h : pg_cl g L) {q x : Nat} (hx : x ≠ 0 → L x = true) : pg_cl (pg_u g q x) L := by
  intro k h2 h26 hk
  by_cases e : k = q
  · subst e
    rw [pg_us]
    exact hx
  · rw [pg_un e]
    exact h k h2 h26 hk
theorem pg_V_le {a va : Nat → Int32} {L C : Nat → Bool} (h : pg_V a va L) (hc : pg_le C L) : pg_V a va C := fun o h1 h2 ho => h o h1 h2 (hc o ho)
theorem pg_W_le {a va : Nat → Int32} {L C : Nat → Bool} (h : pg_W a va L) (hc : pg_le C L) : pg_W a va C := fun o h1 ho => h o h1 (hc _ ho)
theorem pg_G_le {a : Nat → Int32} {g : Nat → Nat} {L C : Nat → Bool} (h : pg_G a g L) (hc : pg_le C L) : pg_G a g C := fun o h1 h2 ho => h o h1 h2 (hc _ ho)
theorem pg_T_le {a : Nat → Int32} {g : Nat → Nat} {L C : Nat → Bool} (h : pg_T a g L) (hc : pg_le C L) : pg_T a g C := fun o h1 ho => h o h1 (hc _ ho)
theorem pg_V_c {a b va : Nat → Int32} {L : Nat → Bool} (h : pg_V a va L) (e : ∀ o, 1 ≤ o → o ≤ 12 → b o = a o) : pg_V b va L := fun o h1 h2 ho => (e o h1 h2).trans (h o h1 h2 ho)
theorem pg_G_c {a b : Nat → Int32} {g : Nat → Nat} {L : Nat → Bool} (h : pg_G a g L) (e : ∀ k, k < 26 → b k = a k) : pg_G b g L := fun k h1 h2 hk => (e k h2).trans (h k h1 h2 hk)
/-! make: the new number joins L -/
theorem pg_V_new {a va : Nat → Int32} {L : Nat → Bool} (h : pg_V a va L) (o : Nat) (x : Int32) : pg_V (upd a o x) (upd va o x) (pg_add L o) := by
  intro p h1 h2 hp
  by_cases e : p = o
  · subst e
    rw [pk_us, pk_us]
  · rw [pk_un e, pk_un e]
    rcases pg_add_iff.mp hp with c | c
    · exact h p h1 h2 c
    · exact absurd c.2 e
theorem pg_W_new {a va : Nat → Int32} {L : Nat → Bool} (h : pg_W a va L) (o : Nat) (x : Int32) : pg_W (upd a o x) (upd va (o + 1) x) (pg_add L (o + 1)) := by
  intro p h1 hp
  by_cases e : p = o
  · subst e
    rw [pk_us, pk_us]
  · rw [pk_un e, pk_un (show p + 1 ≠ o + 1 by omega)]
    rcases pg_add_iff.mp hp with c | c
    · exact h p h1 c
    · omega
theorem pg_G_new {a : Nat → Int32} {g : Nat → Nat} {L : Nat → Bool} (h : pg_G a g L) (o : Nat) : pg_G (upd (upd a (2 * o) (nI 0)) (2 * o + 1) (nI 0)) (pg_u (pg_u g (2 * o) 0) (2 * o + 1) 0) (pg_add L o) := by
  intro k h1 h2 hk
  by_cases e : k = 2 * o + 1
  · subst e
    rw [pk_us, pg_us]
  · rw [pk_un e, pg_un e]
    by_cases e2 : k = 2 * o
    · subst e2
      rw [pk_us, pg_us]
    · rw [pk_un e2, pg_un e2]
      rcases pg_add_iff.mp hk with c | c
      · exact h k h1 h2 c
      · omega
theorem pg_T_new {a : Nat → Int32} {g : Nat → Nat} {L : Nat → Bool} (h : pg_T a g L) (o : Nat) : pg_T (upd (upd a (2 * o) (pg_m 0)) (2 * o + 1) (pg_m 0)) (pg_u (pg_u g (2 * (o + 1)) 0) (2 * (o + 1) + 1) 0) (pg_add L (o + 1)) := by
  intro k h1 hk
  by_cases e : k = 2 * o + 1
  · subst e
    rw [pk_us, show 2 * o + 1 + 2 = 2 * (o + 1) + 1 by omega, pg_us]
  · rw [pk_un e, pg_un (show k + 2 ≠ 2 * (o + 1) + 1 by omega)]
    by_cases e2 : k = 2 * o
    · subst e2
      rw [pk_us, show 2 * o + 2 = 2 * (o + 1) by omega, pg_us]
    · rw [pk_un e2, pg_un (show k + 2 ≠ 2 * (o + 1) by omega)]
      rcases pg_add_iff.mp hk with c | c
      · exact h k h1 c
      · omega
theorem pg_cl_new {g : Nat → Nat} {L : Nat → Bool} (h : pg_cl g L) (o : Nat) : pg_cl (pg_u (pg_u g (2 * o) 0) (2 * o + 1) 0) (pg_add L o) := by
  intro k h1 h2 hk
  by_cases e : k = 2 * o + 1
  · subst e
    rw [pg_us]
    exact fun z => absurd rfl z
  · rw [pg_un e]
    by_cases e2 : k = 2 * o
    · subst e2
      rw [pg_us]
      exact fun z => absurd rfl z
    · rw [pg_un e2]
      intro h0
      rcases pg_add_iff.mp hk with c | c
      · exact pg_add_m _ (h k h1 h2 c h0)
      · omega
end
section
/-! the pure state against both sides -/
def pg_C (cr : Nat) (cg : Nat → Nat) : Nat → Bool := pg_sp cg (pg_one cr) 12
def pg_XR (r : Nat) (hd : Nat → Nat) (va : Nat → Int32) (g : Nat → Nat) (L : Nat → Bool) (cr : Nat) (cva : Nat → Int32) (cg : Nat → Nat) (fr fc : Int32) (ah av al ac acv acl : Nat → Int32) : Prop :=
  fr = nI r ∧ fc = nI cr ∧ pg_H ah hd ∧ pg_V av va L ∧ pg_G al g L ∧ pg_A ac (pg_C cr cg) ∧ pg_V acv cva (pg_C cr cg) ∧ pg_G acl cg (pg_C cr cg)
def pg_YR (r : Nat) (hd : Nat → Nat) (va : Nat → Int32) (g : Nat → Nat) (L : Nat → Bool) (cr : Nat) (cva : Nat → Int32) (cg : Nat → Nat) (fr fo : Int32) (yv yt yh ov ot : Nat → Int32) : Prop :=
  fr = pg_m r ∧ fo = pg_m cr ∧ pg_W yv va L ∧ pg_T yt g L ∧ pg_K yh hd ∧ pg_W ov cva (pg_C cr cg) ∧ pg_T ot cg (pg_C cr cg)
theorem pg_C_cl {cr : Nat} {cg : Nat → Nat} (h : ∀ k, cg k ≤ 12) : pg_cl cg (pg_C cr cg) := pg_sp_cl h
theorem pg_C_in {cr : Nat} {cg : Nat → Nat} (h : cr ≠ 0) : pg_C cr cg cr = true := pg_sp_m 12 _ (pg_one_in h)
theorem pg_C_one {cr : Nat} {cg : Nat → Nat} : pg_le (pg_one cr) (pg_C cr cg) := pg_sp_m 12
theorem pg_C_le {r : Nat} {hd g : Nat → Nat} {L : Nat → Bool} {cr : Nat} {cg : Nat → Nat} (I : pg_I r hd g L cr cg) : pg_le (pg_C r g) L := by
  obtain ⟨_, _, _, _, _, hL, hr, _⟩ := I
  exact pg_sp_s hL (pg_one_s hr) 12
/-! commit and abort on the pure state -/
theorem pg_I_commit {r : Nat} {hd g : Nat → Nat} {L : Nat → Bool} {cr : Nat} {cg : Nat → Nat} (I : pg_I r hd g L cr cg) : pg_I r hd g L r g := by
  obtain ⟨h1, h2, h3, _, _, h6, h7, h8⟩ := I
  exact ⟨h1, h2, h3, h1, h3, h6, h7, h8⟩
theorem pg_I_abort {r : Nat} {hd g : Nat → Nat} {L : Nat → Bool} {cr : Nat} {cg : Nat → Nat} (I : pg_I r hd g L cr cg) : pg_I cr (fun _ => 0) cg (pg_C cr cg) cr cg := by
  obtain ⟨_, _, _, h4, h5, _, _, _⟩ := I
  exact ⟨h4, fun _ => Nat.zero_le 12, h5, h4, h5, pg_C_cl h5, pg_C_in, fun _ _ z => absurd rfl z⟩
theorem pg_XR_commit {r : Nat} {hd : Nat → Nat} {va : Nat → Int32} {g : Nat → Nat} {L : Nat → Bool} {cr : Nat} {cva : Nat → Int32} {cg : Nat → Nat} {fr fc : Int32} {ah av al ac acv acl : Nat → Int32}
    (I : pg_I r hd g L cr cg) (R : pg_XR r hd va g L cr cva cg fr fc ah av al ac acv acl) {ac' acv' acl' : Nat → Int32}
    (h1 : pg_A ac' (pg_C r g)) (h2 : ∀ o, 1 ≤ o → o ≤ 12 → acv' o = av o) (h3 : ∀ k, k < 26 → acl' k = al k) : pg_XR r hd va g L r va g fr fr ah av al ac' acv' acl' := by
  obtain ⟨e1, _, R3, R4, R5, _, _, _⟩ := R
  exact ⟨e1, e1, R3, R4, R5, h1, pg_V_c (pg_V_le R4 (pg_C_le I)) h2, pg_G_c (pg_G_le R5 (pg_C_le I)) h3⟩
theorem pg_XR_abort {r : Nat} {hd : Nat → Nat} {va : Nat → Int32} {g : Nat → Nat} {L : Nat → Bool} {cr : Nat} {cva : Nat → Int32} {cg : Nat → Nat} {fr fc : Int32} {ah av al ac acv acl : Nat → Int32}
    (R : pg_XR r hd va g L cr cva cg fr fc ah av al ac acv acl) {ah' av' al' : Nat → Int32}
    (h1 : ∀ j, j < 4 → ah' j = 0) (h2 : ∀ o, 1 ≤ o → o ≤ 12 → av' o = acv o) (h3 : ∀ k, k < 26 → al' k = acl k) : pg_XR cr (fun _ => 0) cva cg (pg_C cr cg) cr cva cg fc fc ah' av' al' ac acv acl := by
  obtain ⟨_, e2, _, _, _, R6, R7, R8⟩ := R
  exact ⟨e2, e2, fun j hj => h1 j hj, pg_V_c R7 h2, pg_G_c R8 h3, R6, R7, R8⟩
theorem pg_YR_commit {r : Nat} {hd : Nat → Nat} {va : Nat → Int32} {g : Nat → Nat} {L : Nat → Bool} {cr : Nat} {cva : Nat → Int32} {cg : Nat → Nat} {fr fo : Int32} {yv yt yh ov ot : Nat → Int32}
    (I : pg_I r hd g L cr cg) (R : pg_YR r hd va g L cr cva cg fr fo yv yt yh ov ot) {ov' ot' : Nat → Int32}
    (h2 : ∀ i, i < 12 → pg_C r g (i + 1) = true → ov' i = yv i) (h3 : ∀ i, i < 24 → pg_C r g (i / 2 + 1) = true → ot' i = yt i) : pg_YR r hd va g L r va g fr fr yv yt yh ov' ot' := by
  obtain ⟨e1, _, R3, R4, R5, _, _⟩ := R
  exact ⟨e1, e1, R3, R4, R5, fun i hi c => (h2 i hi c).trans (R3 i hi (pg_C_le I _ c)), fun i hi c => (h3 i hi c).trans (R4 i hi (pg_C_le I _ c))⟩
theorem pg_YR_abort {r : Nat} {hd : Nat → Nat} {va : Nat → Int32} {g : Nat → Nat} {L : Nat → Bool} {cr : Nat} {cva : Nat → Int32} {cg : Nat → Nat} {fr fo : Int32} {yv yt yh ov ot : Nat → Int32}
    (R : pg_YR r hd va g L cr cva cg fr fo yv yt yh ov ot) {yv' yt' yh' : Nat → Int32}
    (h1 : ∀ j, j < 4 → yh' j = -1) (h2 : ∀ i, i < 12 → pg_C cr cg (i + 1) = true → yv' i = ov i) (h3 : ∀ i, i < 24 → pg_C cr cg (i / 2 + 1) = true → yt' i = ot i) : pg_YR cr (fun _ => 0) cva cg (pg_C cr cg) cr cva cg fo fo yv' yt' yh' ov ot := by
  obtain ⟨_, e2, _, _, _, R6, R7⟩ := R
  exact ⟨e2, e2, fun i hi c => (h2 i hi c).trans (R6 i hi c), fun i hi c => (h3 i hi c).trans (R7 i hi c), fun j hj => h1 j hj, R6, R7⟩
/-! the changed objects -/
def pg_F (S C : Nat → Bool) (va cva : Nat → Int32) (g cg : Nat → Nat) : Nat → Bool := fun o =>
  S o && !(C o && (decide (va o = cva o) && (decide (g (2 * o) = cg (2 * o)) && decide (g (2 * o + 1) = cg (2 * o + 1)))))
theorem pg_F_no {S C : Nat → Bool} {va cva : Nat → Int32} {g cg : Nat → Nat} {o : Nat} (h : ¬ S o = true) : ¬ pg_F S C va cva g cg o = true := by
  intro e
  simp only [pg_F, Bool.and_eq_true] at e
  exact h e.1
theorem pg_F_iff {S C : Nat → Bool} {va cva : Nat → Int32} {g cg : Nat → Nat} {o : Nat} (h : S o = true) : pg_F S C va cva g cg o = true ↔ ¬ (C o = true ∧ va o = cva o ∧ g (2 * o) = cg (2 * o) ∧ g (2 * o + 1) = cg (2 * o + 1)) := by
  simp only [pg_F, h, Bool.true_and, Bool.not_eq_true', ← Bool.not_eq_true, Bool.and_eq_true, decide_eq_true_eq]
theorem pg_cn_s (S : Nat → Bool) (n : Nat) (h : S (n + 1) = true) : nI (pg_cn S n) + 1 = nI (pg_cn S (n + 1)) := by
  rw [nI_1]
  show _ = nI (pg_cn S n + (if S (n + 1) = true then 1 else 0))
  rw [if_pos h]
theorem pg_cn_z (S : Nat → Bool) (n : Nat) (h : ¬ S (n + 1) = true) : pg_cn S (n + 1) = pg_cn S n := by
  show pg_cn S n + (if S (n + 1) = true then 1 else 0) = _
  rw [if_neg h]
  rfl
end
section
/-! the class's own methods, each with a general post -/
theorem xg_x2 (o : Nat) : nI o * 2 = nI (2 * o) := by
  show nI o * nI 2 = _
  rw [pk_mul, Nat.mul_comm]
theorem xg_y2 (o : Nat) : 2 * nI o = nI (2 * o) := by
  show nI 2 * nI o = _
  rw [pk_mul]
theorem xg_x2s (i : Nat) : nI (i + 1) * 2 = nI (2 * i + 2) := xg_x2 (i + 1)
theorem pg_ps_t {g : Nat → Nat} {S : Nat → Bool} {i : Nat} (s : pg_ps g S (2 * i) (i + 1) = true) : pg_ps g S (2 * (i + 1)) = pg_add (pg_add (pg_ps g S (2 * i)) (g (2 * i + 2))) (g (2 * i + 3)) := by
  show pg_hx g (pg_hx g (pg_ps g S (2 * i)) (2 * i + 2)) (2 * i + 3) = _
  have h1 : pg_hx g (pg_ps g S (2 * i)) (2 * i + 2) = pg_add (pg_ps g S (2 * i)) (g (2 * i + 2)) := by
    unfold pg_hx
    rw [show (2 * i + 2) / 2 = i + 1 by omega, if_pos s]
  rw [h1]
  unfold pg_hx
  rw [show (2 * i + 3) / 2 = i + 1 by omega, if_pos (pg_add_m _ s)]
theorem pg_ps_f {g : Nat → Nat} {S : Nat → Bool} {i : Nat} (s : ¬ pg_ps g S (2 * i) (i + 1) = true) : pg_ps g S (2 * (i + 1)) = pg_ps g S (2 * i) := by
  show pg_hx g (pg_hx g (pg_ps g S (2 * i)) (2 * i + 2)) (2 * i + 3) = _
  have h1 : pg_hx g (pg_ps g S (2 * i)) (2 * i + 2) = pg_ps g S (2 * i) := by
    unfold pg_hx
    rw [show (2 * i + 2) / 2 = i + 1 by omega, if_neg s]
  rw [h1]
  unfold pg_hx
  rw [show (2 * i + 3) / 2 = i + 1 by omega, if_neg s]
theorem xg_clear_l {fr fc : Int32} {ah av al ac acv acl : Nat → Int32} (post : SX → Prop) (H : ∀ b : Nat → Int32, (∀ p, p < 13 → b p = 0) → post (fr, fc, ah, av, al, ac, acv, acl, b)) (d : Nat) :
    ∀ (i : Nat) (b : Nat → Int32), i + d = 13 → (∀ p, p < i → b p = 0) → wX_clearReached_2 post fr fc (d + 1) (nI i) ah av al ac acv acl b := by
  induction d with
  | zero =>
    intro i b hi hb
    exact pk_le 13 i (fun _ => H b (fun p hp => hb p (by omega))) (fun h => absurd h (by omega))
  | succ d ih =>
    intro i b hi hb
    refine pk_le 13 i (fun h => absurd h (by omega)) (fun _ => ⟨pk_in i 13 (by omega), nm_e (nm_r (nI_1 i) (ih (i + 1) _ (by omega) ?_))⟩)
    rw [nI_clamp (by omega), pg_nb0]
    intro p hp
    by_cases e : p = i
    · subst e
      exact pk_us
    · rw [pk_un e]
      exact hb p (by omega)
theorem xg_clear {fr fc : Int32} {ah av al ac acv acl : Nat → Int32} (post : SX → Prop) (b : Nat → Int32) (H : ∀ b : Nat → Int32, (∀ p, p < 13 → b p = 0) → post (fr, fc, ah, av, al, ac, acv, acl, b)) :
    wpX_clearReached post (fr, fc, ah, av, al, ac, acv, acl, b) := ⟨14, xg_clear_l post H 13 0 b rfl (fun p hp => absurd hp (by omega))⟩
theorem xg_in_l {fr fc : Int32} {ah av al ac acv acl : Nat → Int32} {g : Nat → Nat} {L S : Nat → Bool} (hg : ∀ k, g k ≤ 12) (hG : pg_G al g L) (hL : pg_cl g L) (hS : pg_le S L) (post : SX → Prop)
    (J2 : Int32 → (Nat → Int32) → (Nat → Int32) → (Nat → Int32) → (Nat → Int32) → (Nat → Int32) → (Nat → Int32) → (Nat → Int32) → Prop) (x1 : Int32) (H : ∀ b : Nat → Int32, pg_A b (pg_ps g S 24) → J2 (x1 + 1) ah av al ac acv acl b) (d : Nat) :
    ∀ (i : Nat) (b : Nat → Int32), i + d = 12 → pg_A b (pg_ps g S (2 * i)) → wX_spreadReached_10 post J2 x1 fr fc (d + 1) (nI (i + 1)) ah av al ac acv acl b := by
  induction d with
  | zero =>
    intro i b hi hb
    have e : i = 12 := by omega
    subst e
    exact pk_lt 12 13 (fun _ => nm_e (H b hb)) (fun h => absurd h (by omega))
  | succ d ih =>
    intro i b hi hb
    refine pk_lt 12 (i + 1) (fun h => absurd h (by omega)) (fun _ => ⟨pk_in (i + 1) 13 (by omega), ?_⟩)
    rw [nI_clamp (n := i + 1) (by omega)]
    by_cases s : pg_ps g S (2 * i) (i + 1) = true
    · have hl : L (i + 1) = true := pg_ps_s hL hS (2 * i) (by omega) _ s
      have ga : al (2 * i + 2) = nI (g (2 * i + 2)) := hG _ (by omega) (by omega) (by rw [show (2 * i + 2) / 2 = i + 1 by omega]; exact hl)
      have gb : al (2 * i + 2 + 1) = nI (g (2 * i + 3)) := hG (2 * i + 3) (by omega) (by omega) (by rw [show (2 * i + 3) / 2 = i + 1 by omega]; exact hl)
      have ba := hg (2 * i + 2)
      have bb := hg (2 * i + 3)
      refine br_f (by rw [pg_A_1 hb (by omega) (by omega) s]; decide) ?_
      rw [xg_x2s, nI_1 (2 * i + 2), nI_clamp (n := 2 * i + 2) (by omega), nI_clamp (n := 2 * i + 2 + 1) (by omega), ga, gb, nI_clamp (n := g (2 * i + 2)) (by omega), nI_clamp (n := g (2 * i + 3)) (by omega), pg_nb1]
      refine ⟨vp_in_nI (by omega) (by omega), vp_in_nI (by omega) (by omega), nm_e ⟨vp_in_nI (by omega) (by omega), vp_in_nI (by omega) (by omega), nm_e (nm_r (nI_1 (i + 1)) (ih (i + 1) _ (by omega) ?_))⟩⟩
      rw [pg_ps_t s]
      exact pg_A_add (pg_A_add hb _) _
    · refine br_t (pg_A_0 hb (by omega) (by omega) s) (nm_r (nI_1 (i + 1)) (ih (i + 1) b (by omega) ?_))
      rw [pg_ps_f s]
      exact hb
theorem xg_sp_l {fr fc : Int32} {ah av al ac acv acl : Nat → Int32} {g : Nat → Nat} {L S : Nat → Bool} (hg : ∀ k, g k ≤ 12) (hG : pg_G al g L) (hL : pg_cl g L) (hS : pg_le S L) (post : SX → Prop)
    (H : ∀ b : Nat → Int32, pg_A b (pg_sp g S 12) → post (fr, fc, ah, av, al, ac, acv, acl, b)) (d : Nat) :
    ∀ (i : Nat) (b : Nat → Int32), i + d = 12 → pg_A b (pg_sp g S i) → wX_spreadReached_2 post fr fc (d + 1) (nI i) ah av al ac acv acl b := by
  induction d with
  | zero =>
    intro i b hi hb
    have e : i = 12 := by omega
    subst e
    exact pk_le 12 12 (fun _ => H b hb) (fun h => absurd h (by omega))
  | succ d ih =>
    intro i b hi hb
    refine pk_le 12 i (fun h => absurd h (by omega)) (fun _ => ⟨13, xg_in_l hg hG hL (pg_sp_s hL hS i) post _ (nI i) ?_ 12 0 b rfl hb⟩)
    intro b' hb'
    rw [nI_1 i]
    exact ih (i + 1) b' (by omega) hb'
theorem xg_spread {fr fc : Int32} {ah av al ac acv acl : Nat → Int32} {g : Nat → Nat} {L S : Nat → Bool} (hg : ∀ k, g k ≤ 12) (hG : pg_G al g L) (hL : pg_cl g L) (hS : pg_le S L) (post : SX → Prop) {b : Nat → Int32} (hb : pg_A b S)
    (H : ∀ b : Nat → Int32, pg_A b (pg_sp g S 12) → post (fr, fc, ah, av, al, ac, acv, acl, b)) : wpX_spreadReached post (fr, fc, ah, av, al, ac, acv, acl, b) := ⟨13, xg_sp_l hg hG hL hS post H 12 0 b rfl hb⟩
theorem xg_reach {r : Nat} {hd : Nat → Nat} {va : Nat → Int32} {g : Nat → Nat} {L : Nat → Bool} {cr : Nat} {cva : Nat → Int32} {cg : Nat → Nat} {fr fc : Int32} {ah av al ac acv acl : Nat → Int32}
    (I : pg_I r hd g L cr cg) (R : pg_XR r hd va g L cr cva cg fr fc ah av al ac acv acl) (b : Nat → Int32) (post : SX → Prop)
    (H : ∀ b : Nat → Int32, pg_A b (pg_C r g) → post (fr, fc, ah, av, al, ac, acv, acl, b)) : wpX_reachFromRoot post (fr, fc, ah, av, al, ac, acv, acl, b) := by
  obtain ⟨h1, h2, h3, h4, h5, h6, h7, h8⟩ := I
  obtain ⟨e1, e2, R3, R4, R5, R6, R7, R8⟩ := R
  subst e1
  unfold wpX_reachFromRoot
  dsimp only
  refine xg_clear _ b (fun b' hb' => ?_)
  dsimp only
  rw [nI_clamp (n := r) (by omega), pg_nb1]
  refine ⟨vp_in_nI (by omega) (by omega), nm_e ?_⟩
  exact xg_spread h3 R5 h6 (pg_one_s h7) _ (pg_A_add (pg_A_no hb') r) (fun b'' hb'' => H b'' hb'')
end
section
/-! the class: findUnused, make's loop, counts -/
theorem xg_ff_l {fr fc : Int32} {ah av al ac acv acl b : Nat → Int32} {S C : Nat → Bool} (hA : pg_A b S) (hC : pg_A ac C) (post : Int32 → SX → Prop) (d : Nat) :
    ∀ o : Nat, 1 ≤ o → o + d = 13 → post (nI (pg_ff (fun p => S p || C p) d o)) (fr, fc, ah, av, al, ac, acv, acl, b) → wX_findUnused_45 post fr fc ah av al ac acv acl b (d + 1) (nI o) := by
  induction d with
  | zero =>
    intro o h1 ho h
    exact pk_lt 12 o (fun _ => h) (fun h => absurd h (by omega))
  | succ d ih =>
    intro o h1 ho h
    have hf : pg_ff (fun p => S p || C p) (d + 1) o = if (S o || C o) = true then pg_ff (fun p => S p || C p) d (o + 1) else o := rfl
    rw [hf] at h
    refine pk_lt 12 o (fun h => absurd h (by omega)) (fun _ => ⟨pk_in o 13 (by omega), ?_⟩)
    rw [nI_clamp (n := o) (by omega)]
    by_cases s : S o = true
    · rw [if_pos (by rw [s]; rfl)] at h
      exact br_f (by rw [pg_A_1 hA (by omega) (by omega) s]; decide) (nm_r (nI_1 o) (ih (o + 1) (by omega) (by omega) h))
    · refine br_t (pg_A_0 hA (by omega) (by omega) s) ⟨pk_in o 13 (by omega), ?_⟩
      by_cases c : C o = true
      · rw [if_pos (by rw [c, Bool.or_true])] at h
        exact br_f (by rw [pg_A_1 hC (by omega) (by omega) c]; decide) (nm_r (nI_1 o) (ih (o + 1) (by omega) (by omega) h))
      · rw [if_neg (by rw [Bool.or_eq_true]; exact fun z => z.elim s c)] at h
        exact br_t (pg_A_0 hC (by omega) (by omega) c) h
theorem xg_fh_l {hd : Nat → Nat} {g : Nat → Nat} {L S : Nat → Bool} {fr fc : Int32} {ah av al ac acv acl : Nat → Int32} (hH : pg_H ah hd) (hb : ∀ j, hd j ≤ 12) (hh : ∀ j, j < 4 → hd j ≠ 0 → L (hd j) = true)
    (hg : ∀ k, g k ≤ 12) (hG : pg_G al g L) (hL : pg_cl g L) (hS : pg_le S L) (post : Int32 → SX → Prop) (H : ∀ b : Nat → Int32, pg_A b (pg_sp g (pg_hs hd S 4) 12) → ∃ n, wX_findUnused_45 post fr fc ah av al ac acv acl b n 1) (d : Nat) :
    ∀ (i : Nat) (b : Nat → Int32), i + d = 4 → pg_A b (pg_hs hd S i) → wX_findUnused_16 post fr fc (d + 1) (nI i) ah av al ac acv acl b := by
  induction d with
  | zero =>
    intro i b hi hA
    have e : i = 4 := by omega
    subst e
    exact pk_le 4 4 (fun _ => xg_spread hg hG hL (pg_hs_s hS 4 hh) _ hA (fun b' hb' => H b' hb')) (fun h => absurd h (by omega))
  | succ d ih =>
    intro i b hi hA
    have hbi := hb i
    refine pk_le 4 i (fun h => absurd h (by omega)) (fun _ => ⟨pk_in i 4 (by omega), ?_⟩)
    rw [nI_clamp (n := i) (by omega), hH i (by omega), nI_clamp (n := hd i) (by omega), pg_nb1]
    exact ⟨vp_in_nI (by omega) (by omega), nm_e (nm_r (nI_1 i) (ih (i + 1) _ (by omega) (pg_A_add hA (hd i))))⟩
def pg_U (r : Nat) (hd g : Nat → Nat) (cr : Nat) (cg : Nat → Nat) : Nat → Bool := fun p => pg_sp g (pg_hs hd (pg_one r) 4) 12 p || pg_C cr cg p
theorem xg_find {r : Nat} {hd : Nat → Nat} {va : Nat → Int32} {g : Nat → Nat} {L : Nat → Bool} {cr : Nat} {cva : Nat → Int32} {cg : Nat → Nat} {fr fc : Int32} {ah av al ac acv acl : Nat → Int32}
    (I : pg_I r hd g L cr cg) (R : pg_XR r hd va g L cr cva cg fr fc ah av al ac acv acl) (b : Nat → Int32) (post : Int32 → SX → Prop)
    (H : ∀ b : Nat → Int32, post (nI (pg_ff (pg_U r hd g cr cg) 12 1)) (fr, fc, ah, av, al, ac, acv, acl, b)) : wpX_findUnused post (fr, fc, ah, av, al, ac, acv, acl, b) := by
  obtain ⟨h1, h2, h3, h4, h5, h6, h7, h8⟩ := I
  obtain ⟨e1, e2, R3, R4, R5, R6, R7, R8⟩ := R
  subst e1
  unfold wpX_findUnused
  dsimp only
  refine xg_clear _ b (fun b' hb' => ?_)
  dsimp only
  rw [nI_clamp (n := r) (by omega), pg_nb1]
  refine ⟨vp_in_nI (by omega) (by omega), nm_e ⟨5, ?_⟩⟩
  refine xg_fh_l R3 h2 h8 h3 R5 h6 (pg_one_s h7) post ?_ 4 0 _ rfl (pg_A_add (pg_A_no hb') r)
  intro b'' hb''
  exact ⟨13, xg_ff_l hb'' R6 post 12 1 (by omega) (by omega) (H b'')⟩
theorem xg_make_l {fr fc : Int32} {ah av al ac acv acl b : Nat → Int32} {h o : Nat} (hh : h < 4) (ho : o ≤ 12) (post : Int32 → SX → Prop)
    (P : post (nI h) (fr, fc, upd ah h (nI o), av, upd (upd al (2 * o) (nI 0)) (2 * o + 1) (nI 0), ac, acv, acl, b)) : wX_make_31 post (nI h) (nI o) fr fc 3 0 ah av al ac acv acl b := by
  refine pk_le 2 0 (fun h => absurd h (by omega)) (fun _ => ?_)
  have e0 : nI o * 2 + 0 = nI (2 * o) := by rw [xg_x2, Int32.add_zero]
  rw [e0, nI_clamp (n := 2 * o) (by omega)]
  refine ⟨vp_in_nI (by omega) (by omega), nm_e (nm_r (e' := nI 1) rfl ?_)⟩
  refine pk_le 2 1 (fun h => absurd h (by omega)) (fun _ => ?_)
  have e1 : nI o * 2 + nI 1 = nI (2 * o + 1) := by rw [xg_x2, nI_add]
  rw [e1, nI_clamp (n := 2 * o + 1) (by omega)]
  refine ⟨vp_in_nI (by omega) (by omega), nm_e (nm_r (e' := nI 2) rfl ?_)⟩
  refine pk_le 2 2 (fun _ => ?_) (fun h => absurd h (by omega))
  rw [nI_clamp (n := h) (by omega)]
  exact ⟨vp_in_nI hh (by omega), nm_e P⟩
theorem xg_diff {r : Nat} {hd : Nat → Nat} {va : Nat → Int32} {g : Nat → Nat} {L : Nat → Bool} {cr : Nat} {cva : Nat → Int32} {cg : Nat → Nat} {fr fc : Int32} {ah av al ac acv acl b : Nat → Int32}
    (I : pg_I r hd g L cr cg) (R : pg_XR r hd va g L cr cva cg fr fc ah av al ac acv acl) {S : Nat → Bool} {o : Nat} (h1 : 1 ≤ o) (h12 : o ≤ 12) (hl : L o = true) (hs : S o = true) (post : Int32 → Prop)
    (P : post (if pg_F S (pg_C cr cg) va cva g cg o = true then 1 else 0)) : wpX_differsFromCommitted post (fr, fc, ah, av, al, ac, acv, acl, b) (nI o) := by
  obtain ⟨_, _, b3, _, b5, _, _, _⟩ := I
  obtain ⟨e1, e2, R3, R4, R5, R6, R7, R8⟩ := R
  have hF := pg_F_iff (C := pg_C cr cg) (va := va) (cva := cva) (g := g) (cg := cg) hs
  unfold wpX_differsFromCommitted
  dsimp only
  refine nm_r (xg_x2 o) ⟨pk_in o 13 (by omega), ?_⟩
  rw [nI_1 (2 * o), nI_clamp (n := o) (by omega), nI_clamp (n := 2 * o) (by omega), nI_clamp (n := 2 * o + 1) (by omega)]
  by_cases c : pg_C cr cg o = true
  · refine br_f (by rw [pg_A_1 R6 h1 h12 c]; decide) ⟨pk_in o 13 (by omega), pk_in o 13 (by omega), ?_⟩
    have d0 : 2 * o / 2 = o := by omega
    have d1 : (2 * o + 1) / 2 = o := by omega
    rw [R4 o h1 h12 hl, R7 o h1 h12 c, R5 (2 * o) (by omega) (by omega) (by rw [d0]; exact hl), R8 (2 * o) (by omega) (by omega) (by rw [d0]; exact c), R5 (2 * o + 1) (by omega) (by omega) (by rw [d1]; exact hl), R8 (2 * o + 1) (by omega) (by omega) (by rw [d1]; exact c)]
    have i0 := nI_eq (a := g (2 * o)) (b := cg (2 * o)) (by have := b3 (2 * o); omega) (by have := b5 (2 * o); omega)
    have i1 := nI_eq (a := g (2 * o + 1)) (b := cg (2 * o + 1)) (by have := b3 (2 * o + 1); omega) (by have := b5 (2 * o + 1); omega)
    by_cases ev : va o = cva o
    · refine br_t ev ⟨vp_in_nI (by omega) (by omega), vp_in_nI (by omega) (by omega), ?_⟩
      by_cases ea : g (2 * o) = cg (2 * o)
      · refine br_t (i0.mpr ea) ⟨vp_in_nI (by omega) (by omega), vp_in_nI (by omega) (by omega), ?_⟩
        by_cases eb : g (2 * o + 1) = cg (2 * o + 1)
        · refine br_t (i1.mpr eb) ?_
          rw [if_neg (fun z => hF.mp z ⟨c, ev, ea, eb⟩)] at P
          exact P
        · refine br_f (fun z => eb (i1.mp z)) ?_
          rw [if_pos (hF.mpr (fun z => eb z.2.2.2))] at P
          exact P
      · refine br_f (fun z => ea (i0.mp z)) ?_
        rw [if_pos (hF.mpr (fun z => ea z.2.2.1))] at P
        exact P
    · refine br_f ev ?_
      rw [if_pos (hF.mpr (fun z => ev z.2.1))] at P
      exact P
  · refine br_t (pg_A_0 R6 h1 h12 c) ?_
    rw [if_pos (hF.mpr (fun z => c z.1))] at P
    exact P
theorem xg_chg_l {r : Nat} {hd : Nat → Nat} {va : Nat → Int32} {g : Nat → Nat} {L : Nat → Bool} {cr : Nat} {cva : Nat → Int32} {cg : Nat → Nat} {fr fc : Int32} {ah av al ac acv acl b : Nat → Int32}
    (I : pg_I r hd g L cr cg) (R : pg_XR r hd va g L cr cva cg fr fc ah av al ac acv acl) {S : Nat → Bool} (hA : pg_A b S) (hS : pg_le S L) (post : Int32 → Prop)
    (P : post (nI (pg_cn (pg_F S (pg_C cr cg) va cva g cg) 12))) (d : Nat) : ∀ i : Nat, i + d = 12 → wX_countChanged_4 post fr fc ah av al ac acv acl b (d + 1) (nI (pg_cn (pg_F S (pg_C cr cg) va cva g cg) i)) (nI (i + 1)) := by
  induction d with
  | zero =>
    intro i hi
    have e : i = 12 := by omega
    subst e
    exact pk_lt 12 13 (fun _ => P) (fun h => absurd h (by omega))
  | succ d ih =>
    intro i hi
    have hn := ih (i + 1) (by omega)
    refine pk_lt 12 (i + 1) (fun h => absurd h (by omega)) (fun _ => ⟨pk_in (i + 1) 13 (by omega), ?_⟩)
    rw [nI_clamp (n := i + 1) (by omega)]
    by_cases s : S (i + 1) = true
    · refine br_f (by rw [pg_A_1 hA (by omega) (by omega) s]; decide) (xg_diff I R (by omega) (by omega) (hS _ s) s _ ?_)
      by_cases f : pg_F S (pg_C cr cg) va cva g cg (i + 1) = true
      · rw [if_pos f]
        exact br_f (by decide) (nm_r (pg_cn_s _ i f) (nm_r (nI_1 (i + 1)) hn))
      · rw [if_neg f]
        rw [pg_cn_z _ i f] at hn
        exact br_t rfl (nm_r (nI_1 (i + 1)) hn)
    · rw [pg_cn_z _ i (pg_F_no s)] at hn
      exact br_t (pg_A_0 hA (by omega) (by omega) s) (nm_r (nI_1 (i + 1)) hn)
theorem xg_chg {r : Nat} {hd : Nat → Nat} {va : Nat → Int32} {g : Nat → Nat} {L : Nat → Bool} {cr : Nat} {cva : Nat → Int32} {cg : Nat → Nat} {fr fc : Int32} {ah av al ac acv acl b : Nat → Int32}
    (I : pg_I r hd g L cr cg) (R : pg_XR r hd va g L cr cva cg fr fc ah av al ac acv acl) {S : Nat → Bool} (hA : pg_A b S) (hS : pg_le S L) (post : Int32 → Prop)
    (P : post (nI (pg_cn (pg_F S (pg_C cr cg) va cva g cg) 12))) : wpX_countChanged post (fr, fc, ah, av, al, ac, acv, acl, b) := ⟨13, xg_chg_l I R hA hS post P 12 0 rfl⟩
theorem xg_cc_l {fr fc : Int32} {ah av al ac acv acl b : Nat → Int32} {S : Nat → Bool} (hA : pg_A ac S) (post : Int32 → Prop)
    (P : post (nI (pg_cn S 12))) (d : Nat) : ∀ i : Nat, i + d = 12 → wX_countCommitted_4 post fr fc ah av al ac acv acl b (d + 1) (nI (pg_cn S i)) (nI (i + 1)) := by
  induction d with
  | zero =>
    intro i hi
    have e : i = 12 := by omega
    subst e
    exact pk_lt 12 13 (fun _ => P) (fun h => absurd h (by omega))
  | succ d ih =>
    intro i hi
    have hn := ih (i + 1) (by omega)
    refine pk_lt 12 (i + 1) (fun h => absurd h (by omega)) (fun _ => ⟨pk_in (i + 1) 13 (by omega), ?_⟩)
    rw [nI_clamp (n := i + 1) (by omega)]
    by_cases s : S (i + 1) = true
    · exact br_f (by rw [pg_A_1 hA (by omega) (by omega) s]; decide) (nm_r (pg_cn_s _ i s) (nm_r (nI_1 (i + 1)) hn))
    · rw [pg_cn_z _ i s] at hn
      exact br_t (pg_A_0 hA (by omega) (by omega) s) (nm_r (nI_1 (i + 1)) hn)
theorem xg_cc {fr fc : Int32} {ah av al ac acv acl b : Nat → Int32} {S : Nat → Bool} (hA : pg_A ac S) (post : Int32 → Prop)
    (P : post (nI (pg_cn S 12))) : wpX_countCommitted post (fr, fc, ah, av, al, ac, acv, acl, b) := ⟨13, xg_cc_l hA post P 12 0 rfl⟩
theorem xg_rc_l {fr fc : Int32} {ah av al ac acv acl b : Nat → Int32} {S : Nat → Bool} (hA : pg_A b S) (post : Int32 → SX → Prop)
    (P : post (nI (pg_cn S 12)) (fr, fc, ah, av, al, ac, acv, acl, b)) (d : Nat) : ∀ i : Nat, i + d = 12 → wX_reachable_8 post fr fc ah av al ac acv acl b (d + 1) (nI (pg_cn S i)) (nI (i + 1)) := by
  induction d with
  | zero =>
    intro i hi
    have e : i = 12 := by omega
    subst e
    exact pk_lt 12 13 (fun _ => P) (fun h => absurd h (by omega))
  | succ d ih =>
    intro i hi
    have hn := ih (i + 1) (by omega)
    refine pk_lt 12 (i + 1) (fun h => absurd h (by omega)) (fun _ => ⟨pk_in (i + 1) 13 (by omega), ?_⟩)
    rw [nI_clamp (n := i + 1) (by omega)]
    by_cases s : S (i + 1) = true
    · exact br_f (by rw [pg_A_1 hA (by omega) (by omega) s]; decide) (nm_r (pg_cn_s _ i s) (nm_r (nI_1 (i + 1)) hn))
    · rw [pg_cn_z _ i s] at hn
      exact br_t (pg_A_0 hA (by omega) (by omega) s) (nm_r (nI_1 (i + 1)) hn)
end
section
/-! the class: commitReached, restoreCommitted -/
theorem xg_nbA {b : Nat → Int32} {S : Nat → Bool} (h : pg_A b S) {p : Nat} (h1 : 1 ≤ p) (h2 : p ≤ 12) : vp_nar .boolean (b p) = if S p = true then 1 else 0 := by
  rw [h p h1 h2]
  by_cases s : S p = true
  · rw [if_pos s]
    exact pg_nb1
  · rw [if_neg s]
    exact pg_nb0
theorem xg_cm2 {fr fc : Int32} {ah av al ac acv b : Nat → Int32} (post : SX → Prop) (H : ∀ a : Nat → Int32, (∀ k, k < 26 → a k = al k) → post (fr, fc, ah, av, al, ac, acv, a, b)) (d : Nat) :
    ∀ (i : Nat) (a : Nat → Int32), i + d = 26 → (∀ k, k < i → a k = al k) → wX_commitReached_48 post fr fc (d + 1) (nI i) ah av al ac acv a b := by
  induction d with
  | zero =>
    intro i a hi ha
    exact pk_le 26 i (fun _ => H a (fun p hp => ha p (by omega))) (fun h => absurd h (by omega))
  | succ d ih =>
    intro i a hi ha
    refine pk_le 26 i (fun h => absurd h (by omega)) (fun _ => ⟨pk_in i 26 (by omega), pk_in i 26 (by omega), nm_e (nm_r (nI_1 i) (ih (i + 1) _ (by omega) ?_))⟩)
    rw [nI_clamp (by omega)]
    intro p hp
    by_cases e : p = i
    · subst e
      exact pk_us
    · rw [pk_un e]
      exact ha p (by omega)
theorem xg_cm1 {fr fc : Int32} {ah av al acl b : Nat → Int32} {S : Nat → Bool} (hA : pg_A b S) (post : SX → Prop)
    (H : ∀ a c : Nat → Int32, pg_A a S → (∀ o, 1 ≤ o → o ≤ 12 → c o = av o) → ∃ n, wX_commitReached_48 post fr fc n 0 ah av al a c acl b) (d : Nat) :
    ∀ (i : Nat) (a c : Nat → Int32), i + d = 12 → (∀ p, 1 ≤ p → p ≤ i → a p = if S p = true then 1 else 0) → (∀ p, 1 ≤ p → p ≤ i → c p = av p) → wX_commitReached_10 post fr fc (d + 1) (nI (i + 1)) ah av al a c acl b := by
  induction d with
  | zero =>
    intro i a c hi ha hc
    exact pk_lt 12 (i + 1) (fun _ => H a c (fun p h1 h2 => ha p h1 (by omega)) (fun p h1 h2 => hc p h1 (by omega))) (fun h => absurd h (by omega))
  | succ d ih =>
    intro i a c hi ha hc
    refine pk_lt 12 (i + 1) (fun h => absurd h (by omega)) (fun _ => ?_)
    rw [nI_clamp (n := i + 1) (by omega), xg_nbA hA (by omega) (by omega)]
    refine ⟨pk_in (i + 1) 13 (by omega), pk_in (i + 1) 13 (by omega), nm_e ⟨pk_in (i + 1) 13 (by omega), pk_in (i + 1) 13 (by omega), nm_e (nm_r (nI_1 (i + 1)) (ih (i + 1) _ _ (by omega) ?_ ?_))⟩⟩
    · intro p h1 hp
      by_cases e : p = i + 1
      · subst e
        exact pk_us
      · rw [pk_un e]
        exact ha p h1 (by omega)
    · intro p h1 hp
      by_cases e : p = i + 1
      · subst e
        exact pk_us
      · rw [pk_un e]
        exact hc p h1 (by omega)
theorem xg_cm {fr fc : Int32} {ah av al ac acv acl b : Nat → Int32} {S : Nat → Bool} (hA : pg_A b S) (post : SX → Prop)
    (H : ∀ a c l : Nat → Int32, pg_A a S → (∀ o, 1 ≤ o → o ≤ 12 → c o = av o) → (∀ k, k < 26 → l k = al k) → post (fr, fr, ah, av, al, a, c, l, b)) : wpX_commitReached post (fr, fc, ah, av, al, ac, acv, acl, b) :=
  ⟨13, xg_cm1 hA post (fun a c ha hc => ⟨27, xg_cm2 post (fun l hl => H a c l ha hc hl) 26 0 acl rfl (fun k hk => absurd hk (by omega))⟩) 12 0 ac acv rfl (fun p h1 h2 => absurd h1 (by omega)) (fun p h1 h2 => absurd h1 (by omega))⟩
theorem xg_rs3 {fr fc : Int32} {ah av ac acv acl b : Nat → Int32} (post : SX → Prop) (H : ∀ a : Nat → Int32, (∀ k, k < 26 → a k = acl k) → post (fr, fc, ah, av, a, ac, acv, acl, b)) (d : Nat) :
    ∀ (i : Nat) (a : Nat → Int32), i + d = 26 → (∀ k, k < i → a k = acl k) → wX_restoreCommitted_56 post fr fc (d + 1) (nI i) ah av a ac acv acl b := by
  induction d with
  | zero =>
    intro i a hi ha
    exact pk_le 26 i (fun _ => H a (fun p hp => ha p (by omega))) (fun h => absurd h (by omega))
  | succ d ih =>
    intro i a hi ha
    refine pk_le 26 i (fun h => absurd h (by omega)) (fun _ => ⟨pk_in i 26 (by omega), pk_in i 26 (by omega), nm_e (nm_r (nI_1 i) (ih (i + 1) _ (by omega) ?_))⟩)
    rw [nI_clamp (by omega)]
    intro p hp
    by_cases e : p = i
    · subst e
      exact pk_us
    · rw [pk_un e]
      exact ha p (by omega)
theorem xg_rs2 {fr fc : Int32} {ah al ac acv acl b : Nat → Int32} (post : SX → Prop) (H : ∀ a : Nat → Int32, (∀ k, 1 ≤ k → k ≤ 12 → a k = acv k) → ∃ n, wX_restoreCommitted_56 post fr fc n 0 ah a al ac acv acl b) (d : Nat) :
    ∀ (i : Nat) (a : Nat → Int32), i + d = 12 → (∀ k, 1 ≤ k → k ≤ i → a k = acv k) → wX_restoreCommitted_30 post fr fc (d + 1) (nI (i + 1)) ah a al ac acv acl b := by
  induction d with
  | zero =>
    intro i a hi ha
    exact pk_lt 12 (i + 1) (fun _ => H a (fun p h1 hp => ha p h1 (by omega))) (fun h => absurd h (by omega))
  | succ d ih =>
    intro i a hi ha
    refine pk_lt 12 (i + 1) (fun h => absurd h (by omega)) (fun _ => ⟨pk_in (i + 1) 13 (by omega), pk_in (i + 1) 13 (by omega), nm_e (nm_r (nI_1 (i + 1)) (ih (i + 1) _ (by omega) ?_))⟩)
    rw [nI_clamp (by omega)]
    intro p h1 hp
    by_cases e : p = i + 1
    · subst e
      exact pk_us
    · rw [pk_un e]
      exact ha p h1 (by omega)
theorem xg_rs1 {fr fc : Int32} {av al ac acv acl b : Nat → Int32} (post : SX → Prop) (H : ∀ a : Nat → Int32, (∀ k, k < 4 → a k = 0) → ∃ n, wX_restoreCommitted_30 post fr fc n 1 a av al ac acv acl b) (d : Nat) :
    ∀ (i : Nat) (a : Nat → Int32), i + d = 4 → (∀ k, k < i → a k = 0) → wX_restoreCommitted_10 post fr fc (d + 1) (nI i) a av al ac acv acl b := by
  induction d with
  | zero =>
    intro i a hi ha
    exact pk_le 4 i (fun _ => H a (fun p hp => ha p (by omega))) (fun h => absurd h (by omega))
  | succ d ih =>
    intro i a hi ha
    refine pk_le 4 i (fun h => absurd h (by omega)) (fun _ => ⟨pk_in i 4 (by omega), nm_e (nm_r (nI_1 i) (ih (i + 1) _ (by omega) ?_))⟩)
    rw [nI_clamp (by omega)]
    intro p hp
    by_cases e : p = i
    · subst e
      exact pk_us
    · rw [pk_un e]
      exact ha p (by omega)
theorem xg_rs {fr fc : Int32} {ah av al ac acv acl b : Nat → Int32} (post : SX → Prop)
    (H : ∀ a c l : Nat → Int32, (∀ j, j < 4 → a j = 0) → (∀ o, 1 ≤ o → o ≤ 12 → c o = acv o) → (∀ k, k < 26 → l k = acl k) → post (fc, fc, a, c, l, ac, acv, acl, b)) : wpX_restoreCommitted post (fr, fc, ah, av, al, ac, acv, acl, b) :=
  ⟨5, xg_rs1 post (fun a ha => ⟨13, xg_rs2 post (fun c hc => ⟨27, xg_rs3 post (fun l hl => H a c l ha hc hl) 26 0 al rfl (fun k hk => absurd hk (by omega))⟩) 12 0 av rfl (fun p h1 h2 => absurd h1 (by omega))⟩) 4 0 ah rfl (fun k hk => absurd hk (by omega))⟩
/-! handles, links, one -/
def pg_k (q : Nat) : Int32 := if q = 0 then 0 else 1
theorem pg_ix4 (x : Int32) : (x < 0 ∨ nI 4 ≤ x) ∨ ∃ j : Nat, j < 4 ∧ x = nI j := by
  rcases pk_ix x (n := 4) (by decide) with h | h | h
  · exact Or.inl (Or.inl h)
  · exact Or.inl (Or.inr h)
  · exact Or.inr h
theorem pg_ix2 (x : Int32) : (x < 0 ∨ nI 2 ≤ x) ∨ ∃ j : Nat, j < 2 ∧ x = nI j := by
  rcases pk_ix x (n := 2) (by decide) with h | h | h
  · exact Or.inl (Or.inl h)
  · exact Or.inl (Or.inr h)
  · exact Or.inr h
theorem xg_isH0 {post : Int32 → Prop} {x : Int32} (h : x < 0 ∨ nI 4 ≤ x) (p : post 0) : wpX_isHandle post x := by
  by_cases c : x < 0
  · exact br_t c p
  · exact br_f c (br_t (h.elim (fun z => absurd z c) id) p)
theorem xg_isH1 {post : Int32 → Prop} {j : Nat} (h : j < 4) (p : post 1) : wpX_isHandle post (nI j) :=
  br_f (nI_pos (by omega)) (br_f (nI_ge (b := 4) h (by decide)) p)
theorem xg_isL0 {post : Int32 → Prop} {x : Int32} (h : x < 0 ∨ nI 2 ≤ x) (p : post 0) : wpX_isLink post x := by
  by_cases c : x < 0
  · exact br_t c p
  · exact br_f c (br_t (h.elim (fun z => absurd z c) id) p)
theorem xg_isL1 {post : Int32 → Prop} {j : Nat} (h : j < 2) (p : post 1) : wpX_isLink post (nI j) :=
  br_f (nI_pos (by omega)) (br_f (nI_ge (b := 2) h (by decide)) p)
theorem xg_one {post : Int32 → Prop} {q : Nat} (h : q ≤ 12) (p : post (pg_k q)) : wpX_oneIfObject post (nI q) := by
  unfold pg_k at p
  by_cases e : q = 0
  · subst e
    exact br_t rfl p
  · rw [if_neg e] at p
    exact br_f (nI_ne0 (by omega) (by omega)) p
end
section
/-! the reference's own methods, each with a general post -/
theorem yg_isH0 {fr fo : Int32} {yv yt yh ov ot : Nat → Int32} {post : Int32 → Prop} {x : Int32} (h : x < 0 ∨ nI 4 ≤ x) (p : post 0) : wpY_isHandle post (fr, fo, yv, yt, yh, ov, ot) x := by
  by_cases c : x < 0
  · exact br_t c p
  · exact br_f c (br_t (h.elim (fun z => absurd z c) (fun z => Int32.lt_of_lt_of_le (show (3 : Int32) < nI 4 by decide) z)) p)
theorem yg_isH1 {fr fo : Int32} {yv yt yh ov ot : Nat → Int32} {post : Int32 → Prop} {j : Nat} (h : j < 4) (p : post 1) : wpY_isHandle post (fr, fo, yv, yt, yh, ov, ot) (nI j) :=
  br_f (nI_pos (by omega)) (br_f (nI_nlt (a := 3) (b := j) (by omega) (by omega)) p)
theorem yg_lead {fr fo : Int32} {yv yt yh ov ot : Nat → Int32} {post : Int32 → Prop} {q : Nat} (h : q ≤ 12) (p : post (pg_k q)) : wpY_leads post (fr, fo, yv, yt, yh, ov, ot) (pg_m q) := by
  unfold pg_k at p
  by_cases e : q = 0
  · subst e
    exact br_f (by decide) p
  · rw [if_neg e] at p
    exact br_t ((pg_m_ge h).mpr e) p
theorem yg_in1 {fr fo : Int32} {yv yt yh ov ot : Nat → Int32} {post : Int32 → Prop} {z : Int32} {S : Nat → Bool} (hB : pg_B z S) {o : Nat} (ho : o < 12) (s : S (o + 1) = true) (p : post 1) : wpY_in post (fr, fo, yv, yt, yh, ov, ot) z (nI o) :=
  br_t ((pg_B_in hB ho).mpr s) p
theorem yg_in0 {fr fo : Int32} {yv yt yh ov ot : Nat → Int32} {post : Int32 → Prop} {z : Int32} {S : Nat → Bool} (hB : pg_B z S) {o : Nat} (ho : o < 12) (s : ¬ S (o + 1) = true) (p : post 0) : wpY_in post (fr, fo, yv, yt, yh, ov, ot) z (nI o) :=
  br_f (fun e => s ((pg_B_in hB ho).mp e)) p
theorem yg_bit {fr fo : Int32} {yv yt yh ov ot : Nat → Int32} {post : Int32 → Prop} {q : Nat} (h : q ≤ 12) (p : post (pg_bit q)) : wpY_bit post (fr, fo, yv, yt, yh, ov, ot) (pg_m q) := by
  by_cases e : q = 0
  · subst e
    exact br_f (by decide) p
  · rw [pg_bit_s e] at p
    refine br_t ((pg_m_ge h).mpr e) ?_
    rw [pg_m_s e]
    exact p
theorem pg_hx_t {g : Nat → Nat} {S : Nat → Bool} {k : Nat} (s : S (k / 2 + 1) = true) : pg_hx g S (k + 2) = pg_add S (g (k + 2)) := by
  unfold pg_hx
  rw [show (k + 2) / 2 = k / 2 + 1 by omega, if_pos s]
theorem pg_hx_f {g : Nat → Nat} {S : Nat → Bool} {k : Nat} (s : ¬ S (k / 2 + 1) = true) : pg_hx g S (k + 2) = S := by
  unfold pg_hx
  rw [show (k + 2) / 2 = k / 2 + 1 by omega, if_neg s]
theorem yg_43 {fr fo : Int32} {yv yt yh ov ot : Nat → Int32} {g : Nat → Nat} {S : Nat → Bool} (hg : ∀ k, g k ≤ 12) (post : Int32 → Prop) (J5 J15 : Int32 → Int32 → Prop) (x2 x3 x4 z0 : Int32) {k : Nat} (hk : k < 24)
    (hB : pg_B x3 S) (hz : S (k / 2 + 1) = true → z0 = pg_m (g (k + 2))) (H : ∀ z, pg_B z (pg_hx g S (k + 2)) → J15 z (nI (k + 1))) : wY_spread_43 post J5 J15 x2 x3 x4 (nI k) z0 fr fo yv yt yh ov ot := by
  have hd : nI k / 2 = nI (k / 2) := pk_div (a := k) (d := 2) (by omega) (by omega) (by omega)
  have hb := hg (k + 2)
  refine ⟨by decide, ?_⟩
  rw [hd]
  by_cases s : S (k / 2 + 1) = true
  · refine yg_in1 hB (by omega) s (br_f (by decide) ?_)
    rw [hz s]
    by_cases q : g (k + 2) = 0
    · refine br_t ((pg_m_neg hb).mpr q) (nm_r (nI_1 k) (H x3 ?_))
      rw [pg_hx_t s, q, pg_add_0]
      exact hB
    · refine br_f (fun e => q ((pg_m_neg hb).mp e)) (nm_e (nm_r (nI_1 k) (H _ ?_)))
      rw [pg_hx_t s, pg_m_s q, ← pg_bit_s q]
      exact pg_B_add hB hb
  · refine yg_in0 hB (by omega) s (br_t rfl (nm_r (nI_1 k) (H x3 ?_)))
    rw [pg_hx_f s]
    exact hB
theorem yg_15 {fr fo : Int32} {yv yt yh ov ot aa : Nat → Int32} {g : Nat → Nat} {L S : Nat → Bool} (hg : ∀ k, g k ≤ 12) (hT : pg_T aa g L) (hL : pg_cl g L) (hS : pg_le S L) (post : Int32 → Prop) (J5 : Int32 → Int32 → Prop) (x2 x4 : Int32)
    (hx : (x2 = 0 ∧ aa = ot) ∨ (x2 = 1 ∧ aa = yt)) (H : ∀ z, pg_B z (pg_ps g S 24) → J5 z (x4 + 1)) (d : Nat) :
    ∀ (k : Nat) (z : Int32), k + d = 24 → pg_B z (pg_ps g S k) → wY_spread_15 post J5 x2 x4 fr fo yv yt yh ov ot (d + 1) z (nI k) := by
  induction d with
  | zero =>
    intro k z hk hB
    have e : k = 24 := by omega
    subst e
    exact pk_le 24 24 (fun _ => nm_e (H z hB)) (fun h => absurd h (by omega))
  | succ d ih =>
    intro k z hk hB
    refine pk_le 24 k (fun h => absurd h (by omega)) (fun _ => ?_)
    rw [nI_clamp (n := k) (by omega)]
    have hz : pg_ps g S k (k / 2 + 1) = true → aa k = pg_m (g (k + 2)) := fun s => hT k (by omega) (pg_ps_s hL hS k (by omega) _ s)
    rcases hx with ⟨e, e'⟩ | ⟨e, e'⟩
    · rw [e'] at hz
      exact br_t e ⟨pk_in k 24 (by omega), yg_43 hg post J5 _ x2 z x4 (ot k) (by omega) hB hz (fun z' hz' => ih (k + 1) z' (by omega) hz')⟩
    · rw [e'] at hz
      exact br_f (by rw [e]; decide) ⟨pk_in k 24 (by omega), yg_43 hg post J5 _ x2 z x4 (yt k) (by omega) hB hz (fun z' hz' => ih (k + 1) z' (by omega) hz')⟩
theorem yg_5 {fr fo : Int32} {yv yt yh ov ot aa : Nat → Int32} {g : Nat → Nat} {L S : Nat → Bool} (hg : ∀ k, g k ≤ 12) (hT : pg_T aa g L) (hL : pg_cl g L) (hS : pg_le S L) (post : Int32 → Prop) (x2 : Int32)
    (hx : (x2 = 0 ∧ aa = ot) ∨ (x2 = 1 ∧ aa = yt)) (H : ∀ z, pg_B z (pg_sp g S 12) → post z) (d : Nat) :
    ∀ (k : Nat) (z : Int32), k + d = 12 → pg_B z (pg_sp g S k) → wY_spread_5 post x2 fr fo yv yt yh ov ot (d + 1) z (nI k) := by
  induction d with
  | zero =>
    intro k z hk hB
    have e : k = 12 := by omega
    subst e
    exact pk_le 12 12 (fun _ => H z hB) (fun h => absurd h (by omega))
  | succ d ih =>
    intro k z hk hB
    refine pk_le 12 k (fun h => absurd h (by omega)) (fun _ => ⟨25, yg_15 hg hT hL (pg_sp_s hL hS k) post _ x2 (nI k) hx ?_ 24 0 z rfl hB⟩)
    intro z' hz'
    rw [nI_1 k]
    exact ih (k + 1) z' (by omega) hz'
theorem yg_spread {fr fo : Int32} {yv yt yh ov ot aa : Nat → Int32} {g : Nat → Nat} {L S : Nat → Bool} (hg : ∀ k, g k ≤ 12) (hT : pg_T aa g L) (hL : pg_cl g L) (hS : pg_le S L) (post : Int32 → Prop) (x2 : Int32)
    (hx : (x2 = 0 ∧ aa = ot) ∨ (x2 = 1 ∧ aa = yt)) {z : Int32} (hB : pg_B z S) (H : ∀ z, pg_B z (pg_sp g S 12) → post z) : wpY_spread post (fr, fo, yv, yt, yh, ov, ot) z x2 :=
  ⟨13, yg_5 hg hT hL hS post x2 hx H 12 0 z rfl hB⟩
theorem yg_committed {r : Nat} {hd : Nat → Nat} {va : Nat → Int32} {g : Nat → Nat} {L : Nat → Bool} {cr : Nat} {cva : Nat → Int32} {cg : Nat → Nat} {fr fo : Int32} {yv yt yh ov ot : Nat → Int32}
    (I : pg_I r hd g L cr cg) (R : pg_YR r hd va g L cr cva cg fr fo yv yt yh ov ot) (post : Int32 → Prop) (H : ∀ z, pg_B z (pg_C cr cg) → post z) : wpY_committed post (fr, fo, yv, yt, yh, ov, ot) := by
  obtain ⟨h1, h2, h3, h4, h5, h6, h7, h8⟩ := I
  obtain ⟨e1, e2, R3, R4, R5, R6, R7⟩ := R
  subst e2
  unfold wpY_committed
  dsimp only
  refine yg_bit h4 ?_
  exact yg_spread h5 R7 (pg_C_cl h5) pg_C_one _ 0 (Or.inl ⟨rfl, rfl⟩) (pg_B_one h4) (fun z hz => H z hz)
theorem yg_reached {r : Nat} {hd : Nat → Nat} {va : Nat → Int32} {g : Nat → Nat} {L : Nat → Bool} {cr : Nat} {cva : Nat → Int32} {cg : Nat → Nat} {fr fo : Int32} {yv yt yh ov ot : Nat → Int32}
    (I : pg_I r hd g L cr cg) (R : pg_YR r hd va g L cr cva cg fr fo yv yt yh ov ot) (post : Int32 → Prop) (H : ∀ z, pg_B z (pg_C r g) → post z) : wpY_reached post (fr, fo, yv, yt, yh, ov, ot) := by
  obtain ⟨h1, h2, h3, h4, h5, h6, h7, h8⟩ := I
  obtain ⟨e1, e2, R3, R4, R5, R6, R7⟩ := R
  subst e1
  unfold wpY_reached
  dsimp only
  refine yg_bit h1 ?_
  exact yg_spread h3 R4 h6 (pg_one_s h7) _ 1 (Or.inr ⟨rfl, rfl⟩) (pg_B_one h1) (fun z hz => H z hz)
theorem yg_used_l {r : Nat} {hd : Nat → Nat} {va : Nat → Int32} {g : Nat → Nat} {L : Nat → Bool} {cr : Nat} {cva : Nat → Int32} {cg : Nat → Nat} {fr fo : Int32} {yv yt yh ov ot : Nat → Int32}
    (I : pg_I r hd g L cr cg) (R : pg_YR r hd va g L cr cva cg fr fo yv yt yh ov ot) (post : Int32 → Prop) (H : ∀ z, pg_B z (pg_U r hd g cr cg) → post z) (d : Nat) :
    ∀ (i : Nat) (z : Int32), i + d = 4 → pg_B z (pg_hs hd (pg_one r) i) → wY_used_11 post fr fo yv yt yh ov ot (d + 1) z (nI i) := by
  obtain ⟨h1, h2, h3, h4, h5, h6, h7, h8⟩ := id I
  obtain ⟨e1, e2, R3, R4, R5, R6, R7⟩ := id R
  induction d with
  | zero =>
    intro i z hi hB
    have e : i = 4 := by omega
    subst e
    refine pk_le 4 4 (fun _ => ?_) (fun h => absurd h (by omega))
    refine yg_spread h3 R4 h6 (pg_hs_s (pg_one_s h7) 4 h8) _ 1 (Or.inr ⟨rfl, rfl⟩) hB (fun z1 hz1 => ?_)
    exact yg_committed I R _ (fun z2 hz2 => H _ (pg_B_or hz1 hz2))
  | succ d ih =>
    intro i z hi hB
    refine pk_le 4 i (fun h => absurd h (by omega)) (fun _ => ⟨pk_in i 4 (by omega), ?_⟩)
    rw [nI_clamp (n := i) (by omega), R5 i (by omega)]
    exact yg_bit (h2 i) (nm_e (nm_r (nI_1 i) (ih (i + 1) _ (by omega) (pg_B_add hB (h2 i)))))
theorem yg_used {r : Nat} {hd : Nat → Nat} {va : Nat → Int32} {g : Nat → Nat} {L : Nat → Bool} {cr : Nat} {cva : Nat → Int32} {cg : Nat → Nat} {fr fo : Int32} {yv yt yh ov ot : Nat → Int32}
    (I : pg_I r hd g L cr cg) (R : pg_YR r hd va g L cr cva cg fr fo yv yt yh ov ot) (post : Int32 → Prop) (H : ∀ z, pg_B z (pg_U r hd g cr cg) → post z) : wpY_used post (fr, fo, yv, yt, yh, ov, ot) := by
  have hl := yg_used_l I R post H 4 0 (pg_bit r) rfl (pg_B_one I.1)
  have e1 := R.1
  unfold wpY_used
  dsimp only
  rw [e1] at hl ⊢
  exact yg_bit I.1 ⟨5, hl⟩
theorem yg_size_l {fr fo : Int32} {yv yt yh ov ot : Nat → Int32} {S : Nat → Bool} {z : Int32} (hB : pg_B z S) (post : Int32 → Prop) (P : post (nI (pg_cn S 12))) (d : Nat) :
    ∀ i : Nat, i + d = 12 → wY_sizeOf_4 post z fr fo yv yt yh ov ot (d + 1) (nI (pg_cn S i)) (nI i) := by
  induction d with
  | zero =>
    intro i hi
    have e : i = 12 := by omega
    subst e
    exact pk_le 12 12 (fun _ => P) (fun h => absurd h (by omega))
  | succ d ih =>
    intro i hi
    have hn := ih (i + 1) (by omega)
    refine pk_le 12 i (fun h => absurd h (by omega)) (fun _ => ?_)
    by_cases s : S (i + 1) = true
    · exact yg_in1 hB (by omega) s (br_f (by decide) (nm_r (pg_cn_s _ i s) (nm_r (nI_1 i) hn)))
    · rw [pg_cn_z _ i s] at hn
      exact yg_in0 hB (by omega) s (br_t rfl (nm_r (nI_1 i) hn))
theorem yg_size {fr fo : Int32} {yv yt yh ov ot : Nat → Int32} {S : Nat → Bool} {z : Int32} (hB : pg_B z S) (post : Int32 → Prop) (P : post (nI (pg_cn S 12))) : wpY_sizeOf post (fr, fo, yv, yt, yh, ov, ot) z :=
  ⟨13, yg_size_l hB post P 12 0 rfl⟩
end
section
/-! the reference: changed, commit, abort, make's loop -/
theorem yg_90 {fr fo : Int32} {yv yt yh ov ot : Nat → Int32} {S C : Nat → Bool} {va cva : Nat → Int32} {g cg : Nat → Nat} (post : Int32 → Prop) (J15 : Int32 → Int32 → Prop) {x1 x2 z0 : Int32} {i : Nat} (hi : i < 12)
    (hS : pg_B x1 S) (hC : pg_B x2 C) (hz : S (i + 1) = true → C (i + 1) = true → (¬ z0 = 0 ↔ (va (i + 1) = cva (i + 1) ∧ g (2 * (i + 1)) = cg (2 * (i + 1)) ∧ g (2 * (i + 1) + 1) = cg (2 * (i + 1) + 1))))
    (H : J15 (nI (pg_cn (pg_F S C va cva g cg) (i + 1))) (nI (i + 1))) : wY_changed_90 post J15 x1 x2 (nI (pg_cn (pg_F S C va cva g cg) i)) (nI i) z0 fr fo yv yt yh ov ot := by
  unfold wY_changed_90
  by_cases s : S (i + 1) = true
  · refine yg_in1 hS hi s (br_f (by decide) ?_)
    have hF := pg_F_iff (C := C) (va := va) (cva := cva) (g := g) (cg := cg) s
    by_cases c : C (i + 1) = true
    · refine yg_in1 hC hi c (br_f (by decide) ?_)
      by_cases z : z0 = 0
      · have f : pg_F S C va cva g cg (i + 1) = true := hF.mpr (fun q => (hz s c).mpr q.2 z)
        exact br_t z (nm_r (pg_cn_s _ i f) (nm_r (nI_1 i) H))
      · have f : ¬ pg_F S C va cva g cg (i + 1) = true := fun q => hF.mp q ⟨c, (hz s c).mp z⟩
        rw [pg_cn_z _ i f] at H
        exact br_f z (nm_r (nI_1 i) H)
    · have f : pg_F S C va cva g cg (i + 1) = true := hF.mpr (fun q => c q.1)
      exact yg_in0 hC hi c (br_t rfl (nm_r (pg_cn_s _ i f) (nm_r (nI_1 i) H)))
  · rw [pg_cn_z _ i (pg_F_no s)] at H
    exact yg_in0 hS hi s (br_t rfl (nm_r (nI_1 i) H))
theorem yg_chg_l {r : Nat} {hd : Nat → Nat} {va : Nat → Int32} {g : Nat → Nat} {L : Nat → Bool} {cr : Nat} {cva : Nat → Int32} {cg : Nat → Nat} {fr fo : Int32} {yv yt yh ov ot : Nat → Int32}
    (I : pg_I r hd g L cr cg) (R : pg_YR r hd va g L cr cva cg fr fo yv yt yh ov ot) {S : Nat → Bool} {x1 x2 : Int32} (hB : pg_B x1 S) (hC : pg_B x2 (pg_C cr cg)) (hS : pg_le S L) (post : Int32 → Prop)
    (P : post (nI (pg_cn (pg_F S (pg_C cr cg) va cva g cg) 12))) (d : Nat) : ∀ i : Nat, i + d = 12 → wY_changed_15 post x1 x2 fr fo yv yt yh ov ot (d + 1) (nI (pg_cn (pg_F S (pg_C cr cg) va cva g cg) i)) (nI i) := by
  obtain ⟨_, _, b3, _, b5, _, _, _⟩ := I
  obtain ⟨e1, e2, R3, R4, R5, R6, R7⟩ := R
  induction d with
  | zero =>
    intro i hi
    have e : i = 12 := by omega
    subst e
    exact pk_le 12 12 (fun _ => P) (fun h => absurd h (by omega))
  | succ d ih =>
    intro i hi
    have hn := ih (i + 1) (by omega)
    have fv : S (i + 1) = true → pg_C cr cg (i + 1) = true → (yv i = ov i ↔ va (i + 1) = cva (i + 1)) := by
      intro s c
      rw [R3 i (by omega) (hS _ s), R6 i (by omega) c]
    have d0 : 2 * i / 2 + 1 = i + 1 := by omega
    have d1 : (2 * i + 1) / 2 + 1 = i + 1 := by omega
    have fa : S (i + 1) = true → pg_C cr cg (i + 1) = true → (yt (2 * i) = ot (2 * i) ↔ g (2 * (i + 1)) = cg (2 * (i + 1))) := by
      intro s c
      rw [R4 (2 * i) (by omega) (by rw [d0]; exact hS _ s), R7 (2 * i) (by omega) (by rw [d0]; exact c), pg_m_eq (b3 _) (b5 _)]
      exact Iff.rfl
    have fb : S (i + 1) = true → pg_C cr cg (i + 1) = true → (yt (2 * i + 1) = ot (2 * i + 1) ↔ g (2 * (i + 1) + 1) = cg (2 * (i + 1) + 1)) := by
      intro s c
      rw [R4 (2 * i + 1) (by omega) (by rw [d1]; exact hS _ s), R7 (2 * i + 1) (by omega) (by rw [d1]; exact c), pg_m_eq (b3 _) (b5 _)]
      exact Iff.rfl
    refine pk_le 12 i (fun h => absurd h (by omega)) (fun _ => ⟨pk_in i 12 (by omega), pk_in i 12 (by omega), ?_⟩)
    rw [xg_y2, nI_1 (2 * i), nI_clamp (n := i) (by omega), nI_clamp (n := 2 * i) (by omega), nI_clamp (n := 2 * i + 1) (by omega)]
    by_cases ev : yv i = ov i
    · refine br_t ev ⟨vp_in_nI (by omega) (by omega), vp_in_nI (by omega) (by omega), ?_⟩
      by_cases ea : yt (2 * i) = ot (2 * i)
      · refine br_t ea ⟨vp_in_nI (by omega) (by omega), vp_in_nI (by omega) (by omega), ?_⟩
        by_cases eb : yt (2 * i + 1) = ot (2 * i + 1)
        · exact br_t eb (yg_90 post _ (by omega) hB hC (fun s c => ⟨fun _ => ⟨(fv s c).mp ev, (fa s c).mp ea, (fb s c).mp eb⟩, fun _ => by decide⟩) hn)
        · refine br_f eb ?_
          unfold wY_changed_89
          exact yg_90 post _ (by omega) hB hC (fun s c => ⟨fun q => absurd rfl q, fun q => absurd ((fb s c).mpr q.2.2) eb⟩) hn
      · refine br_f ea ?_
        unfold wY_changed_89
        exact yg_90 post _ (by omega) hB hC (fun s c => ⟨fun q => absurd rfl q, fun q => absurd ((fa s c).mpr q.2.1) ea⟩) hn
    · refine br_f ev ?_
      unfold wY_changed_89
      exact yg_90 post _ (by omega) hB hC (fun s c => ⟨fun q => absurd rfl q, fun q => absurd ((fv s c).mpr q.1) ev⟩) hn
theorem yg_chg {r : Nat} {hd : Nat → Nat} {va : Nat → Int32} {g : Nat → Nat} {L : Nat → Bool} {cr : Nat} {cva : Nat → Int32} {cg : Nat → Nat} {fr fo : Int32} {yv yt yh ov ot : Nat → Int32}
    (I : pg_I r hd g L cr cg) (R : pg_YR r hd va g L cr cva cg fr fo yv yt yh ov ot) (post : Int32 → Prop) (P : post (nI (pg_cn (pg_F (pg_C r g) (pg_C cr cg) va cva g cg) 12))) : wpY_changed post (fr, fo, yv, yt, yh, ov, ot) := by
  unfold wpY_changed
  dsimp only
  refine yg_reached I R _ (fun z hz => ?_)
  refine yg_committed I R _ (fun w hw => ?_)
  exact ⟨13, yg_chg_l I R hz hw (pg_C_le I) post P 12 0 rfl⟩
theorem yg_cm_l {fr fo : Int32} {yv yt yh : Nat → Int32} {S : Nat → Bool} {z n : Int32} (hB : pg_B z S) (post : Int32 → SY → Prop)
    (H : ∀ a c : Nat → Int32, (∀ i, i < 12 → S (i + 1) = true → a i = yv i) → (∀ i, i < 24 → S (i / 2 + 1) = true → c i = yt i) → post n (fr, fo, yv, yt, yh, a, c)) (d : Nat) :
    ∀ (i : Nat) (a c : Nat → Int32), i + d = 12 → (∀ p, p < i → S (p + 1) = true → a p = yv p) → (∀ p, p < 2 * i → S (p / 2 + 1) = true → c p = yt p) → wY_commit_20 post n z fr fo (d + 1) (nI i) yv yt yh a c := by
  induction d with
  | zero =>
    intro i a c hi ha hc
    exact pk_le 12 i (fun _ => H a c (fun p hp => ha p (by omega)) (fun p hp => hc p (by omega))) (fun h => absurd h (by omega))
  | succ d ih =>
    intro i a c hi ha hc
    refine pk_le 12 i (fun h => absurd h (by omega)) (fun _ => ?_)
    by_cases s : S (i + 1) = true
    · refine yg_in1 hB (by omega) s (br_f (by decide) ?_)
      rw [xg_y2, nI_1 (2 * i), nI_clamp (n := i) (by omega), nI_clamp (n := 2 * i) (by omega), nI_clamp (n := 2 * i + 1) (by omega)]
      refine ⟨vp_in_nI (by omega) (by omega), vp_in_nI (by omega) (by omega), nm_e ⟨vp_in_nI (by omega) (by omega), vp_in_nI (by omega) (by omega), nm_e ⟨vp_in_nI (by omega) (by omega), vp_in_nI (by omega) (by omega), nm_e (nm_r (nI_1 i) (ih (i + 1) _ _ (by omega) ?_ ?_))⟩⟩⟩
      · intro p hp sp
        by_cases e : p = i
        · subst e
          exact pk_us
        · rw [pk_un e]
          exact ha p (by omega) sp
      · intro p hp sp
        by_cases e : p = 2 * i + 1
        · subst e
          exact pk_us
        · rw [pk_un e]
          by_cases e2 : p = 2 * i
          · subst e2
            exact pk_us
          · rw [pk_un e2]
            exact hc p (by omega) sp
    · refine yg_in0 hB (by omega) s (br_t rfl (nm_r (nI_1 i) (ih (i + 1) a c (by omega) ?_ ?_)))
      · intro p hp sp
        by_cases e : p = i
        · subst e
          exact absurd sp s
        · exact ha p (by omega) sp
      · intro p hp sp
        by_cases e : p / 2 = i
        · rw [e] at sp
          exact absurd sp s
        · exact hc p (by omega) sp
theorem yg_commit {r : Nat} {hd : Nat → Nat} {va : Nat → Int32} {g : Nat → Nat} {L : Nat → Bool} {cr : Nat} {cva : Nat → Int32} {cg : Nat → Nat} {fr fo : Int32} {yv yt yh ov ot : Nat → Int32}
    (I : pg_I r hd g L cr cg) (R : pg_YR r hd va g L cr cva cg fr fo yv yt yh ov ot) (post : Int32 → SY → Prop)
    (H : ∀ a c : Nat → Int32, pg_YR r hd va g L r va g fr fr yv yt yh a c → post (nI (pg_cn (pg_F (pg_C r g) (pg_C cr cg) va cva g cg) 12)) (fr, fr, yv, yt, yh, a, c)) : wpY_commit post (fr, fo, yv, yt, yh, ov, ot) := by
  unfold wpY_commit
  dsimp only
  refine yg_chg I R _ ?_
  refine yg_reached I R _ (fun z hz => ?_)
  exact ⟨13, yg_cm_l hz post (fun a c ha hc => H a c (pg_YR_commit I R ha hc)) 12 0 ov ot rfl (fun p hp => absurd hp (by omega)) (fun p hp => absurd hp (by omega))⟩
theorem yg_fg_l {fr fo : Int32} {yv yt ov ot : Nat → Int32} (post : SY → Prop) (H : ∀ a : Nat → Int32, (∀ j, j < 4 → a j = -1) → post (fr, fo, yv, yt, a, ov, ot)) (d : Nat) :
    ∀ (i : Nat) (a : Nat → Int32), i + d = 4 → (∀ k, k < i → a k = -1) → wY_forget_2 post fr fo (d + 1) (nI i) yv yt a ov ot := by
  induction d with
  | zero =>
    intro i a hi ha
    exact pk_le 4 i (fun _ => H a (fun p hp => ha p (by omega))) (fun h => absurd h (by omega))
  | succ d ih =>
    intro i a hi ha
    refine pk_le 4 i (fun h => absurd h (by omega)) (fun _ => ⟨pk_in i 4 (by omega), nm_e (nm_r (nI_1 i) (ih (i + 1) _ (by omega) ?_))⟩)
    rw [nI_clamp (by omega)]
    intro p hp
    by_cases e : p = i
    · subst e
      exact pk_us
    · rw [pk_un e]
      exact ha p (by omega)
theorem yg_forget {fr fo : Int32} {yv yt yh ov ot : Nat → Int32} (post : SY → Prop) (H : ∀ a : Nat → Int32, (∀ j, j < 4 → a j = -1) → post (fr, fo, yv, yt, a, ov, ot)) : wpY_forget post (fr, fo, yv, yt, yh, ov, ot) :=
  ⟨5, yg_fg_l post H 4 0 yh rfl (fun k hk => absurd hk (by omega))⟩
theorem yg_ab_l {fr fo : Int32} {yh ov ot : Nat → Int32} {S : Nat → Bool} {z : Int32} (hB : pg_B z S) (post : Int32 → SY → Prop)
    (H : ∀ a c : Nat → Int32, (∀ i, i < 12 → S (i + 1) = true → a i = ov i) → (∀ i, i < 24 → S (i / 2 + 1) = true → c i = ot i) → post (nI (pg_cn S 12)) (fr, fo, a, c, yh, ov, ot)) (d : Nat) :
    ∀ (i : Nat) (a c : Nat → Int32), i + d = 12 → (∀ p, p < i → S (p + 1) = true → a p = ov p) → (∀ p, p < 2 * i → S (p / 2 + 1) = true → c p = ot p) → wY_abort_19 post z fr fo (d + 1) (nI i) a c yh ov ot := by
  induction d with
  | zero =>
    intro i a c hi ha hc
    exact pk_le 12 i (fun _ => yg_size hB _ (H a c (fun p hp => ha p (by omega)) (fun p hp => hc p (by omega)))) (fun h => absurd h (by omega))
  | succ d ih =>
    intro i a c hi ha hc
    refine pk_le 12 i (fun h => absurd h (by omega)) (fun _ => ?_)
    by_cases s : S (i + 1) = true
    · refine yg_in1 hB (by omega) s (br_f (by decide) ?_)
      rw [xg_y2, nI_1 (2 * i), nI_clamp (n := i) (by omega), nI_clamp (n := 2 * i) (by omega), nI_clamp (n := 2 * i + 1) (by omega)]
      refine ⟨vp_in_nI (by omega) (by omega), vp_in_nI (by omega) (by omega), nm_e ⟨vp_in_nI (by omega) (by omega), vp_in_nI (by omega) (by omega), nm_e ⟨vp_in_nI (by omega) (by omega), vp_in_nI (by omega) (by omega), nm_e (nm_r (nI_1 i) (ih (i + 1) _ _ (by omega) ?_ ?_))⟩⟩⟩
      · intro p hp sp
        by_cases e : p = i
        · subst e
          exact pk_us
        · rw [pk_un e]
          exact ha p (by omega) sp
      · intro p hp sp
        by_cases e : p = 2 * i + 1
        · subst e
          exact pk_us
        · rw [pk_un e]
          by_cases e2 : p = 2 * i
          · subst e2
            exact pk_us
          · rw [pk_un e2]
            exact hc p (by omega) sp
    · refine yg_in0 hB (by omega) s (br_t rfl (nm_r (nI_1 i) (ih (i + 1) a c (by omega) ?_ ?_)))
      · intro p hp sp
        by_cases e : p = i
        · subst e
          exact absurd sp s
        · exact ha p (by omega) sp
      · intro p hp sp
        by_cases e : p / 2 = i
        · rw [e] at sp
          exact absurd sp s
        · exact hc p (by omega) sp
theorem yg_abort {r : Nat} {hd : Nat → Nat} {va : Nat → Int32} {g : Nat → Nat} {L : Nat → Bool} {cr : Nat} {cva : Nat → Int32} {cg : Nat → Nat} {fr fo : Int32} {yv yt yh ov ot : Nat → Int32}
    (I : pg_I r hd g L cr cg) (R : pg_YR r hd va g L cr cva cg fr fo yv yt yh ov ot) (post : Int32 → SY → Prop)
    (H : ∀ a c h : Nat → Int32, pg_YR cr (fun _ => 0) cva cg (pg_C cr cg) cr cva cg fo fo a c h ov ot → post (nI (pg_cn (pg_C cr cg) 12)) (fo, fo, a, c, h, ov, ot)) : wpY_abort post (fr, fo, yv, yt, yh, ov, ot) := by
  unfold wpY_abort
  dsimp only
  refine yg_committed I R _ (fun z hz => ?_)
  refine yg_forget _ (fun h hh => ?_)
  exact ⟨13, yg_ab_l hz post (fun a c ha hc => H a c h (pg_YR_abort R hh ha hc)) 12 0 yv yt rfl (fun p hp => absurd hp (by omega)) (fun p hp => absurd hp (by omega))⟩
theorem yg_make_l {fr fo : Int32} {yv yt yh ov ot : Nat → Int32} {U : Nat → Bool} {z x : Int32} (hB : pg_B z U) {h : Nat} (hh : h < 4) (post : Int32 → SY → Prop) (d : Nat) :
    ∀ i : Nat, i + d = 12 → (pg_ff U d (i + 1) = 0 → post (-2) (fr, fo, yv, yt, yh, ov, ot)) →
      (∀ o, pg_ff U d (i + 1) = o + 1 → post (nI h) (fr, fo, upd yv o x, upd (upd yt (2 * o) (pg_m 0)) (2 * o + 1) (pg_m 0), upd yh h (pg_m (o + 1)), ov, ot)) →
      wY_make_18 post (nI h) x z fr fo yv yt yh ov ot (d + 1) (nI i) := by
  induction d with
  | zero =>
    intro i hi h0 h1
    exact pk_le 12 i (fun _ => h0 rfl) (fun h => absurd h (by omega))
  | succ d ih =>
    intro i hi h0 h1
    have hf : pg_ff U (d + 1) (i + 1) = if U (i + 1) = true then pg_ff U d (i + 1 + 1) else i + 1 := rfl
    rw [hf] at h0 h1
    refine pk_le 12 i (fun h => absurd h (by omega)) (fun _ => ?_)
    by_cases s : U (i + 1) = true
    · rw [if_pos s] at h0 h1
      exact yg_in1 hB (by omega) s (br_f (by decide) (nm_r (nI_1 i) (ih (i + 1) (by omega) h0 h1)))
    · rw [if_neg s] at h0 h1
      refine yg_in0 hB (by omega) s (br_t rfl ?_)
      rw [xg_y2, nI_1 (2 * i), nI_clamp (n := i) (by omega), nI_clamp (n := 2 * i) (by omega), nI_clamp (n := 2 * i + 1) (by omega), nI_clamp (n := h) (by omega)]
      exact ⟨vp_in_nI (by omega) (by omega), nm_e ⟨vp_in_nI (by omega) (by omega), nm_e ⟨vp_in_nI (by omega) (by omega), nm_e ⟨vp_in_nI (by omega) (by omega), nm_e (h1 i rfl)⟩⟩⟩⟩
end
section
/-! the relation and what is owed -/
def i_Rel (_ : Nat) (u : SX) (v : SY) : Prop :=
  ∃ (r : Nat) (hd : Nat → Nat) (va : Nat → Int32) (g : Nat → Nat) (L : Nat → Bool) (cr : Nat) (cva : Nat → Int32) (cg : Nat → Nat), pg_I r hd g L cr cg ∧
    (match u with | (fr, fc, ah, av, al, ac, acv, acl, _) => pg_XR r hd va g L cr cva cg fr fc ah av al ac acv acl) ∧
    (match v with | (fr, fo, yv, yt, yh, ov, ot) => pg_YR r hd va g L cr cva cg fr fo yv yt yh ov ot)
theorem i_up {k : Nat} {u : SX} {v : SY} (h : i_Rel k u v) : i_Rel (k + 4) u v := h
theorem i_vc0 : wpX_init (fun u => wpY_init (fun v => i_Rel 0 u v)) := by
  unfold wpX_init wpY_init
  refine yg_forget _ (fun h hh => ?_)
  have hn : ∀ p, ¬ pg_C 0 (fun _ => 0) p = true := by
    intro p hp
    have h1 : pg_le (pg_C 0 (fun _ => 0)) pg_no := pg_sp_s (fun k _ _ _ z => absurd rfl z) (pg_one_s (fun z => absurd rfl z)) 12
    exact absurd (h1 p hp) (by simp [pg_no])
  refine ⟨0, fun _ => 0, fun _ => 0, fun _ => 0, pg_no, 0, fun _ => 0, fun _ => 0, ?_, ?_, ?_⟩
  · exact ⟨Nat.zero_le _, fun _ => Nat.zero_le _, fun _ => Nat.zero_le _, Nat.zero_le _, fun _ => Nat.zero_le _, fun _ _ _ _ z => absurd rfl z, fun z => absurd rfl z, fun _ _ z => absurd rfl z⟩
  · exact ⟨rfl, rfl, fun _ _ => rfl, fun _ _ _ _ => rfl, fun _ _ _ _ => rfl, fun p _ _ => by rw [if_neg (hn p)], fun _ _ _ _ => rfl, fun _ _ _ _ => rfl⟩
  · exact ⟨rfl, rfl, fun _ _ _ => rfl, fun i _ z => absurd z (by simp [pg_no]), fun j hj => hh j hj, fun _ _ _ => rfl, fun i _ z => absurd z (hn _)⟩
theorem i_vc_getRoot {k : Nat} {u : SX} {v : SY} (I : i_Rel k u v) (hk : k + 4 ≤ 2048) (v1 : Int32) : wpX_getRoot (fun r u' => wpY_getRoot (fun r' v' => r' = r ∧ i_Rel (k + 4) u' v') v v1) u v1 := by
  obtain ⟨fr, fc, ah, av, al, ac, acv, acl, ar⟩ := u
  obtain ⟨gr, fo, yv, yt, yh, ov, ot⟩ := v
  have I0 := I
  obtain ⟨r, hd, va, g, L, cr, cva, cg, ⟨h1, h2, h3, h4, h5, h6, h7, h8⟩, ⟨e1, e2, R3, R4, R5, R6, R7, R8⟩, ⟨d1, d2, T3, T4, T5, T6, T7⟩⟩ := I0
  unfold wpX_getRoot
  dsimp only
  rcases pg_ix4 v1 with hv | ⟨j, hj, rfl⟩
  · refine xg_isH0 hv (br_t rfl ?_)
    unfold wpY_getRoot
    dsimp only
    exact yg_isH0 hv (br_t rfl ⟨rfl, I⟩)
  · refine xg_isH1 hj (br_f (by decide) ⟨vp_in_nI hj (by decide), nm_e ?_⟩)
    subst e1 d1
    refine xg_one h1 ?_
    unfold wpY_getRoot
    dsimp only
    refine yg_isH1 hj (br_f (by decide) ⟨vp_in_nI hj (by decide), nm_e (yg_lead h1 ?_)⟩)
    rw [nI_clamp (n := j) (by omega)]
    exact ⟨rfl, r, pg_u hd j r, va, g, L, cr, cva, cg, ⟨h1, pg_ub h2 h1, h3, h4, h5, h6, h7, pg_hd_u h8 h7⟩, ⟨rfl, e2, pg_H_u R3 j r, R4, R5, R6, R7, R8⟩, ⟨rfl, d2, T3, T4, pg_K_u T5 j r, T6, T7⟩⟩
theorem i_vc_setRoot {k : Nat} {u : SX} {v : SY} (I : i_Rel k u v) (hk : k + 4 ≤ 2048) (v1 : Int32) : wpX_setRoot (fun r u' => wpY_setRoot (fun r' v' => r' = r ∧ i_Rel (k + 4) u' v') v v1) u v1 := by
  obtain ⟨fr, fc, ah, av, al, ac, acv, acl, ar⟩ := u
  obtain ⟨gr, fo, yv, yt, yh, ov, ot⟩ := v
  have I0 := I
  obtain ⟨r, hd, va, g, L, cr, cva, cg, ⟨h1, h2, h3, h4, h5, h6, h7, h8⟩, ⟨e1, e2, R3, R4, R5, R6, R7, R8⟩, ⟨d1, d2, T3, T4, T5, T6, T7⟩⟩ := I0
  unfold wpX_setRoot
  dsimp only
  rcases pg_ix4 v1 with hv | ⟨j, hj, rfl⟩
  · refine xg_isH0 hv (br_t rfl ?_)
    unfold wpY_setRoot
    dsimp only
    exact yg_isH0 hv (br_t rfl ⟨rfl, I⟩)
  · refine xg_isH1 hj (br_f (by decide) ⟨vp_in_nI hj (by decide), ?_⟩)
    rw [nI_clamp (n := j) (by omega)]
    refine nm_r (R3 j hj) (xg_one (h2 j) ?_)
    unfold wpY_setRoot
    dsimp only
    refine yg_isH1 hj (br_f (by decide) ⟨vp_in_nI hj (by decide), ?_⟩)
    rw [nI_clamp (n := j) (by omega)]
    refine nm_r (T5 j hj) (yg_lead (h2 j) ?_)
    exact ⟨rfl, hd j, hd, va, g, L, cr, cva, cg, ⟨h2 j, h2, h3, h4, h5, h6, h8 j hj, h8⟩, ⟨rfl, e2, R3, R4, R5, R6, R7, R8⟩, ⟨rfl, d2, T3, T4, T5, T6, T7⟩⟩
theorem i_vc_drop {k : Nat} {u : SX} {v : SY} (I : i_Rel k u v) (hk : k + 4 ≤ 2048) (v1 : Int32) : wpX_drop (fun r u' => wpY_drop (fun r' v' => r' = r ∧ i_Rel (k + 4) u' v') v v1) u v1 := by
  obtain ⟨fr, fc, ah, av, al, ac, acv, acl, ar⟩ := u
  obtain ⟨gr, fo, yv, yt, yh, ov, ot⟩ := v
  have I0 := I
  obtain ⟨r, hd, va, g, L, cr, cva, cg, ⟨h1, h2, h3, h4, h5, h6, h7, h8⟩, ⟨e1, e2, R3, R4, R5, R6, R7, R8⟩, ⟨d1, d2, T3, T4, T5, T6, T7⟩⟩ := I0
  unfold wpX_drop
  dsimp only
  rcases pg_ix4 v1 with hv | ⟨j, hj, rfl⟩
  · refine xg_isH0 hv (br_t rfl ?_)
    unfold wpY_drop
    dsimp only
    exact yg_isH0 hv (br_t rfl ⟨rfl, I⟩)
  · refine xg_isH1 hj (br_f (by decide) ⟨vp_in_nI hj (by decide), ?_⟩)
    rw [nI_clamp (n := j) (by omega)]
    refine nm_r (R3 j hj) ⟨vp_in_nI hj (by decide), nm_e (xg_one (h2 j) ?_)⟩
    unfold wpY_drop
    dsimp only
    refine yg_isH1 hj (br_f (by decide) ⟨vp_in_nI hj (by decide), ?_⟩)
    rw [nI_clamp (n := j) (by omega), T5 j hj]
    refine yg_lead (h2 j) ⟨vp_in_nI hj (by decide), nm_e ?_⟩
    exact ⟨rfl, r, pg_u hd j 0, va, g, L, cr, cva, cg, ⟨h1, pg_ub h2 (by omega), h3, h4, h5, h6, h7, pg_hd_u h8 (fun z => absurd rfl z)⟩, ⟨e1, e2, pg_H_u R3 j 0, R4, R5, R6, R7, R8⟩, ⟨d1, d2, T3, T4, pg_K_u T5 j 0, T6, T7⟩⟩
end
section
/-! what is owed: value, setValue, same, follow, link -/
theorem pg_Vn {hd : Nat → Nat} {L : Nat → Bool} (h8 : ∀ j, j < 4 → hd j ≠ 0 → L (hd j) = true) {j : Nat} (hj : j < 4) {o : Nat} (e : hd j = o + 1) : L (o + 1) = true := by
  have := h8 j hj (by omega)
  rw [e] at this
  exact this
theorem i_vc_value {k : Nat} {u : SX} {v : SY} (I : i_Rel k u v) (hk : k + 4 ≤ 2048) (v1 : Int32) : wpX_value (fun r => wpY_value (fun r' => r' = r ∧ i_Rel (k + 4) u v) v v1) u v1 := by
  obtain ⟨fr, fc, ah, av, al, ac, acv, acl, ar⟩ := u
  obtain ⟨gr, fo, yv, yt, yh, ov, ot⟩ := v
  have I0 := I
  obtain ⟨r, hd, va, g, L, cr, cva, cg, ⟨h1, h2, h3, h4, h5, h6, h7, h8⟩, ⟨e1, e2, R3, R4, R5, R6, R7, R8⟩, ⟨d1, d2, T3, T4, T5, T6, T7⟩⟩ := I0
  unfold wpX_value
  dsimp only
  rcases pg_ix4 v1 with hv | ⟨j, hj, rfl⟩
  · refine xg_isH0 hv (br_t rfl ?_)
    unfold wpY_value
    dsimp only
    exact yg_isH0 hv (br_t rfl ⟨rfl, I⟩)
  · refine xg_isH1 hj (br_f (by decide) ⟨vp_in_nI hj (by decide), ?_⟩)
    rw [nI_clamp (n := j) (by omega), R3 j hj]
    have hb := h2 j
    by_cases z : hd j = 0
    · refine br_t (by rw [z]; rfl) ?_
      unfold wpY_value
      dsimp only
      refine yg_isH1 hj (br_f (by decide) ⟨vp_in_nI hj (by decide), ?_⟩)
      rw [nI_clamp (n := j) (by omega), T5 j hj]
      exact br_t ((pg_m_neg hb).mpr z) ⟨rfl, I⟩
    · obtain ⟨o, eo⟩ : ∃ o, hd j = o + 1 := ⟨hd j - 1, by omega⟩
      have hl := pg_Vn h8 hj eo
      refine br_f (nI_ne0 (by omega) (by omega)) ⟨vp_in_nI hj (by decide), vp_in_nI (by omega) (by decide), ?_⟩
      rw [nI_clamp (n := hd j) (by omega), eo, R4 (o + 1) (by omega) (by omega) hl]
      unfold wpY_value
      dsimp only
      refine yg_isH1 hj (br_f (by decide) ⟨vp_in_nI hj (by decide), ?_⟩)
      rw [nI_clamp (n := j) (by omega), T5 j hj, eo]
      show (nI o < 0 → _) ∧ (¬ nI o < 0 → _)
      refine br_f (nI_pos (by omega)) ⟨vp_in_nI hj (by decide), vp_in_nI (by omega) (by decide), ?_, I⟩
      show yv (nI o).toNatClampNeg = _
      rw [nI_clamp (n := o) (by omega)]
      exact T3 o (by omega) hl
theorem i_vc_setValue {k : Nat} {u : SX} {v : SY} (I : i_Rel k u v) (hk : k + 4 ≤ 2048) (v1 : Int32) (v2 : Int32) : wpX_setValue (fun r u' => wpY_setValue (fun r' v' => r' = r ∧ i_Rel (k + 4) u' v') v v1 v2) u v1 v2 := by
  obtain ⟨fr, fc, ah, av, al, ac, acv, acl, ar⟩ := u
  obtain ⟨gr, fo, yv, yt, yh, ov, ot⟩ := v
  have I0 := I
  obtain ⟨r, hd, va, g, L, cr, cva, cg, ⟨h1, h2, h3, h4, h5, h6, h7, h8⟩, ⟨e1, e2, R3, R4, R5, R6, R7, R8⟩, ⟨d1, d2, T3, T4, T5, T6, T7⟩⟩ := I0
  unfold wpX_setValue
  dsimp only
  rcases pg_ix4 v1 with hv | ⟨j, hj, rfl⟩
  · refine xg_isH0 hv (br_t rfl ?_)
    unfold wpY_setValue
    dsimp only
    exact yg_isH0 hv (br_t rfl ⟨rfl, I⟩)
  · refine xg_isH1 hj (br_f (by decide) ⟨vp_in_nI hj (by decide), ?_⟩)
    rw [nI_clamp (n := j) (by omega), R3 j hj]
    have hb := h2 j
    by_cases z : hd j = 0
    · refine br_t (by rw [z]; rfl) ?_
      unfold wpY_setValue
      dsimp only
      refine yg_isH1 hj (br_f (by decide) ⟨vp_in_nI hj (by decide), ?_⟩)
      rw [nI_clamp (n := j) (by omega), T5 j hj]
      exact br_f (fun q => (pg_m_ge hb).mp q z) ⟨rfl, I⟩
    · obtain ⟨o, eo⟩ : ∃ o, hd j = o + 1 := ⟨hd j - 1, by omega⟩
      refine br_f (nI_ne0 (by omega) (by omega)) ⟨vp_in_nI hj (by decide), vp_in_nI (by omega) (by decide), nm_e ?_⟩
      rw [nI_clamp (n := hd j) (by omega), eo]
      unfold wpY_setValue
      dsimp only
      refine yg_isH1 hj (br_f (by decide) ⟨vp_in_nI hj (by decide), ?_⟩)
      rw [nI_clamp (n := j) (by omega), T5 j hj, eo]
      show (0 ≤ nI o → _) ∧ (¬ 0 ≤ nI o → _)
      refine br_t (nI_pos' (by omega)) ⟨vp_in_nI hj (by decide), vp_in_nI (by omega) (by decide), nm_r (e' := upd yv o v2) ?_ ?_⟩
      · show upd yv (nI o).toNatClampNeg v2 = _
        rw [nI_clamp (n := o) (by omega)]
      · exact ⟨rfl, r, hd, upd va (o + 1) v2, g, L, cr, cva, cg, ⟨h1, h2, h3, h4, h5, h6, h7, h8⟩, ⟨e1, e2, R3, pg_V_u R4 (o + 1) v2, R5, R6, R7, R8⟩, ⟨d1, d2, pg_W_u T3 o v2, T4, T5, T6, T7⟩⟩
theorem i_vc_same {k : Nat} {u : SX} {v : SY} (I : i_Rel k u v) (hk : k + 4 ≤ 2048) (v1 : Int32) (v2 : Int32) : wpX_same (fun r => wpY_same (fun r' => r' = r ∧ i_Rel (k + 4) u v) v v1 v2) u v1 v2 := by
  obtain ⟨fr, fc, ah, av, al, ac, acv, acl, ar⟩ := u
  obtain ⟨gr, fo, yv, yt, yh, ov, ot⟩ := v
  have I0 := I
  obtain ⟨r, hd, va, g, L, cr, cva, cg, ⟨h1, h2, h3, h4, h5, h6, h7, h8⟩, ⟨e1, e2, R3, R4, R5, R6, R7, R8⟩, ⟨d1, d2, T3, T4, T5, T6, T7⟩⟩ := I0
  unfold wpX_same
  dsimp only
  rcases pg_ix4 v1 with hv | ⟨j, hj, rfl⟩
  · refine xg_isH0 hv (br_t rfl ?_)
    unfold wpY_same
    dsimp only
    exact yg_isH0 hv (br_t rfl ⟨rfl, I⟩)
  · refine xg_isH1 hj (br_f (by decide) ?_)
    rcases pg_ix4 v2 with hv | ⟨i, hi, rfl⟩
    · refine xg_isH0 hv (br_t rfl ?_)
      unfold wpY_same
      dsimp only
      exact yg_isH1 hj (br_f (by decide) (yg_isH0 hv (br_t rfl ⟨rfl, I⟩)))
    · refine xg_isH1 hi (br_f (by decide) ⟨vp_in_nI hj (by decide), ?_⟩)
      rw [nI_clamp (n := j) (by omega), nI_clamp (n := i) (by omega), R3 j hj, R3 i hi]
      have hb := h2 j
      have hc := h2 i
      by_cases z : hd j = 0
      · refine br_t (by rw [z]; rfl) ?_
        unfold wpY_same
        dsimp only
        refine yg_isH1 hj (br_f (by decide) (yg_isH1 hi (br_f (by decide) ⟨vp_in_nI hj (by decide), ?_⟩)))
        rw [nI_clamp (n := j) (by omega), T5 j hj]
        exact br_t ((pg_m_neg hb).mpr z) ⟨rfl, I⟩
      · refine br_f (nI_ne0 (by omega) (by omega)) ⟨vp_in_nI hj (by decide), vp_in_nI hi (by decide), ?_⟩
        by_cases q : hd j = hd i
        · refine br_t (by rw [q]) ?_
          unfold wpY_same
          dsimp only
          refine yg_isH1 hj (br_f (by decide) (yg_isH1 hi (br_f (by decide) ⟨vp_in_nI hj (by decide), ?_⟩)))
          rw [nI_clamp (n := j) (by omega), nI_clamp (n := i) (by omega), T5 j hj, T5 i hi]
          exact br_f (fun y => z ((pg_m_neg hb).mp y)) ⟨vp_in_nI hj (by decide), vp_in_nI hi (by decide), br_t (by rw [q]) ⟨rfl, I⟩⟩
        · refine br_f (fun y => q ((nI_eq (by omega) (by omega)).mp y)) ?_
          unfold wpY_same
          dsimp only
          refine yg_isH1 hj (br_f (by decide) (yg_isH1 hi (br_f (by decide) ⟨vp_in_nI hj (by decide), ?_⟩)))
          rw [nI_clamp (n := j) (by omega), nI_clamp (n := i) (by omega), T5 j hj, T5 i hi]
          exact br_f (fun y => z ((pg_m_neg hb).mp y)) ⟨vp_in_nI hj (by decide), vp_in_nI hi (by decide), br_f (fun y => q ((pg_m_eq hb hc).mp y)) ⟨rfl, I⟩⟩
theorem pg_l2 {x : Int32} (h : x < 0 ∨ nI 2 ≤ x) {A B : Prop} (b : B) : (x < 0 → B) ∧ (¬ x < 0 → ((x ≤ 1 → A) ∧ (¬ x ≤ 1 → B))) := by
  by_cases c : x < 0
  · exact br_t c b
  · refine br_f c (br_f ?_ b)
    intro y
    have q : nI 2 ≤ x := h.elim (fun z => absurd z c) id
    exact absurd (Int32.le_trans q y) (by decide)
theorem pg_l2w {w : Nat} (h : w < 2) {A B : Prop} (a : A) : (nI w < 0 → B) ∧ (¬ nI w < 0 → ((nI w ≤ 1 → A) ∧ (¬ nI w ≤ 1 → B))) :=
  br_f (nI_pos (by omega)) (br_t (nI_le (a := w) (b := 1) (by omega) (by omega)) a)
theorem i_vc_follow {k : Nat} {u : SX} {v : SY} (I : i_Rel k u v) (hk : k + 4 ≤ 2048) (v1 : Int32) (v2 : Int32) (v3 : Int32) : wpX_follow (fun r u' => wpY_follow (fun r' v' => r' = r ∧ i_Rel (k + 4) u' v') v v1 v2 v3) u v1 v2 v3 := by
  obtain ⟨fr, fc, ah, av, al, ac, acv, acl, ar⟩ := u
  obtain ⟨gr, fo, yv, yt, yh, ov, ot⟩ := v
  have I0 := I
  obtain ⟨r, hd, va, g, L, cr, cva, cg, ⟨h1, h2, h3, h4, h5, h6, h7, h8⟩, ⟨e1, e2, R3, R4, R5, R6, R7, R8⟩, ⟨d1, d2, T3, T4, T5, T6, T7⟩⟩ := I0
  unfold wpX_follow
  dsimp only
  rcases pg_ix4 v1 with hv | ⟨j, hj, rfl⟩
  · refine xg_isH0 hv (br_t rfl ?_)
    unfold wpY_follow
    dsimp only
    exact yg_isH0 hv (br_t rfl ⟨rfl, I⟩)
  refine xg_isH1 hj (br_f (by decide) ?_)
  rcases pg_ix4 v2 with hv | ⟨i, hi, rfl⟩
  · refine xg_isH0 hv (br_t rfl ?_)
    unfold wpY_follow
    dsimp only
    exact yg_isH1 hj (br_f (by decide) (yg_isH0 hv (br_t rfl ⟨rfl, I⟩)))
  refine xg_isH1 hi (br_f (by decide) ?_)
  rcases pg_ix2 v3 with hv | ⟨w, hw, rfl⟩
  · refine xg_isL0 hv (br_t rfl ?_)
    unfold wpY_follow
    dsimp only
    exact yg_isH1 hj (br_f (by decide) (yg_isH1 hi (br_f (by decide) (pg_l2 hv ⟨rfl, I⟩))))
  refine xg_isL1 hw (br_f (by decide) ⟨vp_in_nI hi (by decide), ?_⟩)
  rw [nI_clamp (n := i) (by omega)]
  refine nm_r (R3 i hi) ?_
  have hb := h2 i
  by_cases z : hd i = 0
  · refine br_t (by rw [z]; rfl) ?_
    unfold wpY_follow
    dsimp only
    refine yg_isH1 hj (br_f (by decide) (yg_isH1 hi (br_f (by decide) (pg_l2w hw ⟨vp_in_nI hi (by decide), ?_⟩))))
    rw [nI_clamp (n := i) (by omega), T5 i hi]
    exact br_f (fun q => (pg_m_ge hb).mp q z) ⟨rfl, I⟩
  · obtain ⟨o, eo⟩ : ∃ o, hd i = o + 1 := ⟨hd i - 1, by omega⟩
    have hl := pg_Vn h8 hi eo
    have hg := h3 (2 * (o + 1) + w)
    refine br_f (nI_ne0 (by omega) (by omega)) ?_
    rw [eo, xg_x2, nI_add, nI_clamp (n := 2 * (o + 1) + w) (by omega)]
    refine ⟨vp_in_nI (by omega) (by decide), nm_r (R5 (2 * (o + 1) + w) (by omega) (by omega) (by rw [show (2 * (o + 1) + w) / 2 = o + 1 by omega]; exact hl)) ⟨vp_in_nI hj (by decide), nm_e (xg_one hg ?_)⟩⟩
    rw [nI_clamp (n := j) (by omega)]
    unfold wpY_follow
    dsimp only
    refine yg_isH1 hj (br_f (by decide) (yg_isH1 hi (br_f (by decide) (pg_l2w hw ⟨vp_in_nI hi (by decide), ?_⟩))))
    have ht : yt (2 * o + w) = pg_m (g (2 * (o + 1) + w)) := by
      rw [T4 (2 * o + w) (by omega) (by rw [show (2 * o + w) / 2 + 1 = o + 1 by omega]; exact hl), show 2 * o + w + 2 = 2 * (o + 1) + w by omega]
    rw [nI_clamp (n := i) (by omega), T5 i hi, eo, nI_clamp (n := j) (by omega)]
    show (0 ≤ nI o → (vp_in (nI i) 4 ∧ vp_in (2 * nI o + nI w) 24 ∧ vp_in (nI j) 4 ∧ ∀ x : Nat → Int32, x = upd yh j (yt (2 * nI o + nI w).toNatClampNeg) → _)) ∧ (¬ 0 ≤ nI o → _)
    rw [xg_y2, nI_add, nI_clamp (n := 2 * o + w) (by omega), ht]
    refine br_t (nI_pos' (by omega)) ⟨vp_in_nI hi (by decide), vp_in_nI (by omega) (by decide), vp_in_nI hj (by decide), nm_e ⟨vp_in_nI hj (by decide), ?_⟩⟩
    rw [pk_us]
    refine yg_lead hg ⟨rfl, r, pg_u hd j (g (2 * (o + 1) + w)), va, g, L, cr, cva, cg, ⟨h1, pg_ub h2 hg, h3, h4, h5, h6, h7, pg_hd_u h8 ?_⟩, ⟨e1, e2, pg_H_u R3 j _, R4, R5, R6, R7, R8⟩, ⟨d1, d2, T3, T4, pg_K_u T5 j _, T6, T7⟩⟩
    exact h6 (2 * (o + 1) + w) (by omega) (by omega) (by rw [show (2 * (o + 1) + w) / 2 = o + 1 by omega]; exact hl)
theorem i_vc_link {k : Nat} {u : SX} {v : SY} (I : i_Rel k u v) (hk : k + 4 ≤ 2048) (v1 : Int32) (v2 : Int32) (v3 : Int32) : wpX_link (fun r u' => wpY_link (fun r' v' => r' = r ∧ i_Rel (k + 4) u' v') v v1 v2 v3) u v1 v2 v3 := by
  obtain ⟨fr, fc, ah, av, al, ac, acv, acl, ar⟩ := u
  obtain ⟨gr, fo, yv, yt, yh, ov, ot⟩ := v
  have I0 := I
  obtain ⟨r, hd, va, g, L, cr, cva, cg, ⟨h1, h2, h3, h4, h5, h6, h7, h8⟩, ⟨e1, e2, R3, R4, R5, R6, R7, R8⟩, ⟨d1, d2, T3, T4, T5, T6, T7⟩⟩ := I0
  unfold wpX_link
  dsimp only
  rcases pg_ix4 v1 with hv | ⟨j, hj, rfl⟩
  · refine xg_isH0 hv (br_t rfl ?_)
    unfold wpY_link
    dsimp only
    exact yg_isH0 hv (br_t rfl ⟨rfl, I⟩)
  refine xg_isH1 hj (br_f (by decide) ?_)
  rcases pg_ix4 v3 with hv | ⟨i, hi, rfl⟩
  · refine xg_isH0 hv (br_t rfl ?_)
    unfold wpY_link
    dsimp only
    exact yg_isH1 hj (br_f (by decide) (yg_isH0 hv (br_t rfl ⟨rfl, I⟩)))
  refine xg_isH1 hi (br_f (by decide) ?_)
  rcases pg_ix2 v2 with hv | ⟨w, hw, rfl⟩
  · refine xg_isL0 hv (br_t rfl ?_)
    unfold wpY_link
    dsimp only
    exact yg_isH1 hj (br_f (by decide) (yg_isH1 hi (br_f (by decide) (pg_l2 hv ⟨rfl, I⟩))))
  refine xg_isL1 hw (br_f (by decide) ⟨vp_in_nI hj (by decide), ?_⟩)
  rw [nI_clamp (n := j) (by omega)]
  refine nm_r (R3 j hj) ?_
  have hb := h2 j
  have hc := h2 i
  by_cases z : hd j = 0
  · refine br_t (by rw [z]; rfl) ?_
    unfold wpY_link
    dsimp only
    refine yg_isH1 hj (br_f (by decide) (yg_isH1 hi (br_f (by decide) (pg_l2w hw ⟨vp_in_nI hj (by decide), ?_⟩))))
    rw [nI_clamp (n := j) (by omega), T5 j hj]
    exact br_f (fun q => (pg_m_ge hb).mp q z) ⟨rfl, I⟩
  · obtain ⟨o, eo⟩ : ∃ o, hd j = o + 1 := ⟨hd j - 1, by omega⟩
    refine br_f (nI_ne0 (by omega) (by omega)) ⟨vp_in_nI hi (by decide), ?_⟩
    rw [nI_clamp (n := i) (by omega)]
    refine nm_r (R3 i hi) ?_
    rw [eo, xg_x2, nI_add, nI_clamp (n := 2 * (o + 1) + w) (by omega)]
    refine ⟨vp_in_nI (by omega) (by decide), nm_e (xg_one hc ?_)⟩
    unfold wpY_link
    dsimp only
    refine yg_isH1 hj (br_f (by decide) (yg_isH1 hi (br_f (by decide) (pg_l2w hw ⟨vp_in_nI hj (by decide), ?_⟩))))
    rw [nI_clamp (n := j) (by omega), T5 j hj, nI_clamp (n := i) (by omega), T5 i hi, eo]
    show (0 ≤ nI o → (vp_in (nI j) 4 ∧ vp_in (nI i) 4 ∧ vp_in (2 * nI o + nI w) 24 ∧ ∀ x : Nat → Int32, x = upd yt (2 * nI o + nI w).toNatClampNeg (pg_m (hd i)) → _)) ∧ (¬ 0 ≤ nI o → _)
    rw [xg_y2, nI_add, nI_clamp (n := 2 * o + w) (by omega)]
    refine br_t (nI_pos' (by omega)) ⟨vp_in_nI hj (by decide), vp_in_nI hi (by decide), vp_in_nI (by omega) (by decide), nm_e ⟨vp_in_nI hi (by decide), ?_⟩⟩
    have hT := pg_T_u T4 (2 * o + w) (hd i)
    rw [show 2 * o + w + 2 = 2 * (o + 1) + w by omega] at hT
    exact yg_lead hc ⟨rfl, r, hd, va, pg_u g (2 * (o + 1) + w) (hd i), L, cr, cva, cg, ⟨h1, h2, pg_ub h3 hc, h4, h5, pg_cl_u h6 (h8 i hi), h7, h8⟩, ⟨e1, e2, R3, R4, pg_G_u R5 _ _, R6, R7, R8⟩, ⟨d1, d2, T3, hT, T5, T6, T7⟩⟩
end
section
/-! what is owed: make -/
theorem i_vc_make {k : Nat} {u : SX} {v : SY} (I : i_Rel k u v) (hk : k + 4 ≤ 2048) (v1 : Int32) (v2 : Int32) : wpX_make (fun r u' => wpY_make (fun r' v' => r' = r ∧ i_Rel (k + 4) u' v') v v1 v2) u v1 v2 := by
  obtain ⟨fr, fc, ah, av, al, ac, acv, acl, ar⟩ := u
  obtain ⟨gr, fo, yv, yt, yh, ov, ot⟩ := v
  obtain ⟨r, hd, va, g, L, cr, cva, cg, I1, RX, RY⟩ := id I
  dsimp only at RX RY
  unfold wpX_make
  dsimp only
  rcases pg_ix4 v1 with hv | ⟨j, hj, rfl⟩
  · refine xg_isH0 hv (br_t rfl ?_)
    unfold wpY_make
    dsimp only
    exact yg_isH0 hv (br_t rfl ⟨rfl, I⟩)
  refine xg_isH1 hj (br_f (by decide) ?_)
  refine xg_find I1 RX ar _ (fun b => ?_)
  dsimp only
  have hf := pg_ff_b (pg_U r hd g cr cg) 12 1
  by_cases z : pg_ff (pg_U r hd g cr cg) 12 1 = 0
  · refine br_t (by rw [z]; rfl) ?_
    unfold wpY_make
    dsimp only
    refine yg_isH1 hj (br_f (by decide) (yg_used I1 RY _ (fun y hy => ⟨13, ?_⟩)))
    refine yg_make_l hy hj _ 12 0 rfl (fun _ => ⟨rfl, r, hd, va, g, L, cr, cva, cg, I1, RX, RY⟩) (fun o ho => absurd (z.symm.trans ho) (by omega))
  · obtain ⟨o, eo⟩ : ∃ o, pg_ff (pg_U r hd g cr cg) 12 1 = o + 1 := ⟨pg_ff (pg_U r hd g cr cg) 12 1 - 1, by omega⟩
    have ho := hf z
    rw [eo] at ho
    rw [eo]
    refine br_f (nI_ne0 (by omega) (by omega)) ?_
    rw [nI_clamp (n := o + 1) (by omega)]
    refine ⟨vp_in_nI (by omega) (by decide), nm_e ⟨3, xg_make_l hj (by omega) _ ?_⟩⟩
    unfold wpY_make
    dsimp only
    refine yg_isH1 hj (br_f (by decide) (yg_used I1 RY _ (fun y hy => ⟨13, ?_⟩)))
    refine yg_make_l hy hj _ 12 0 rfl (fun q => absurd (q.symm.trans eo) (by omega)) (fun o' ho' => ?_)
    have e' : o' = o := by
      have := ho'.symm.trans eo
      omega
    subst e'
    obtain ⟨h1, h2, h3, h4, h5, h6, h7, h8⟩ := I1
    obtain ⟨e1, e2, R3, R4, R5, R6, R7, R8⟩ := RX
    obtain ⟨d1, d2, T3, T4, T5, T6, T7⟩ := RY
    refine ⟨rfl, r, pg_u hd j (o' + 1), upd va (o' + 1) v2, pg_u (pg_u g (2 * (o' + 1)) 0) (2 * (o' + 1) + 1) 0, pg_add L (o' + 1), cr, cva, cg, ?_, ?_, ?_⟩
    · exact ⟨h1, pg_ub h2 (by omega), pg_ub (pg_ub h3 (by omega)) (by omega), h4, h5, pg_cl_new h6 (o' + 1), fun q => pg_add_m _ (h7 q), pg_hd_u (fun j hj q => pg_add_m _ (h8 j hj q)) (fun q => pg_add_iff.mpr (Or.inr ⟨q, rfl⟩))⟩
    · exact ⟨e1, e2, pg_H_u R3 j (o' + 1), pg_V_new R4 (o' + 1) v2, pg_G_new R5 (o' + 1), R6, R7, R8⟩
    · exact ⟨d1, d2, pg_W_new T3 o' v2, pg_T_new T4 o', pg_K_u T5 j (o' + 1), T6, T7⟩
end
section
/-! what is owed: commit, abort, crash, reachable -/
theorem i_vc_commit {k : Nat} {u : SX} {v : SY} (I : i_Rel k u v) (hk : k + 4 ≤ 2048) : wpX_commit (fun r u' => wpY_commit (fun r' v' => r' = r ∧ i_Rel (k + 4) u' v') v) u := by
  obtain ⟨fr, fc, ah, av, al, ac, acv, acl, ar⟩ := u
  obtain ⟨gr, fo, yv, yt, yh, ov, ot⟩ := v
  obtain ⟨r, hd, va, g, L, cr, cva, cg, I1, RX, RY⟩ := id I
  dsimp only at RX RY
  unfold wpX_commit
  dsimp only
  refine xg_reach I1 RX ar _ (fun b hb => ?_)
  dsimp only
  refine xg_chg I1 RX hb (pg_C_le I1) _ ?_
  refine xg_cm hb _ (fun a c l ha hc hl => ?_)
  dsimp only
  refine yg_commit I1 RY _ (fun a' c' RY' => ?_)
  exact ⟨rfl, r, hd, va, g, L, r, va, g, pg_I_commit I1, pg_XR_commit I1 RX ha hc hl, RY'⟩
theorem i_vc_abort {k : Nat} {u : SX} {v : SY} (I : i_Rel k u v) (hk : k + 4 ≤ 2048) : wpX_abort (fun r u' => wpY_abort (fun r' v' => r' = r ∧ i_Rel (k + 4) u' v') v) u := by
  obtain ⟨fr, fc, ah, av, al, ac, acv, acl, ar⟩ := u
  obtain ⟨gr, fo, yv, yt, yh, ov, ot⟩ := v
  obtain ⟨r, hd, va, g, L, cr, cva, cg, I1, RX, RY⟩ := id I
  dsimp only at RX RY
  unfold wpX_abort
  dsimp only
  refine xg_rs _ (fun a c l ha hc hl => ?_)
  dsimp only
  have RX' := pg_XR_abort RX ha hc hl
  refine xg_cc RX'.2.2.2.2.2.1 _ ?_
  refine yg_abort I1 RY _ (fun a' c' h' RY' => ?_)
  exact ⟨rfl, cr, fun _ => 0, cva, cg, pg_C cr cg, cr, cva, cg, pg_I_abort I1, RX', RY'⟩
theorem xg_28 {r : Nat} {hd : Nat → Nat} {va : Nat → Int32} {g : Nat → Nat} {L : Nat → Bool} {cr : Nat} {cva : Nat → Int32} {cg : Nat → Nat} {fr fc gr fo : Int32} {ah av al ac acv acl b yv yt yh ov ot : Nat → Int32}
    (I : pg_I r hd g L cr cg) (RX : pg_XR r hd va g L cr cva cg fr fc ah av al ac acv acl) (RY : pg_YR r hd va g L cr cva cg gr fo yv yt yh ov ot) (k : Nat) (x : Int32) (pX : Int32 → SX → Prop)
    (H : ∀ (s : Int32) (u' : SX), (∀ pY : Int32 → SY → Prop, (∀ v', i_Rel k u' v' → pY s v') → wY_crash_23 pY x gr fo yv yt yh ov ot) → pX s u') : wX_crash_28 pX x fr fc ah av al ac acv acl b := by
  unfold wX_crash_28
  refine xg_rs _ (fun a c l ha hc hl => ?_)
  dsimp only
  have RX' := pg_XR_abort RX ha hc hl
  by_cases z : x = 0
  · refine br_t z (H _ _ (fun pY hp => ?_))
    unfold wY_crash_23
    refine yg_abort I RY _ (fun a' c' h' RY' => ?_)
    exact br_t z (hp _ ⟨cr, fun _ => 0, cva, cg, pg_C cr cg, cr, cva, cg, pg_I_abort I, RX', RY'⟩)
  · refine br_f z (H _ _ (fun pY hp => ?_))
    unfold wY_crash_23
    refine yg_abort I RY _ (fun a' c' h' RY' => ?_)
    exact br_f z (hp _ ⟨cr, fun _ => 0, cva, cg, pg_C cr cg, cr, cva, cg, pg_I_abort I, RX', RY'⟩)
theorem i_vc_crash {k : Nat} {u : SX} {v : SY} (I : i_Rel k u v) (hk : k + 4 ≤ 2048) (v1 : Int32) : wpX_crash (fun r u' => wpY_crash (fun r' v' => r' = r ∧ i_Rel (k + 4) u' v') v v1) u v1 := by
  obtain ⟨fr, fc, ah, av, al, ac, acv, acl, ar⟩ := u
  obtain ⟨gr, fo, yv, yt, yh, ov, ot⟩ := v
  obtain ⟨r, hd, va, g, L, cr, cva, cg, I1, RX, RY⟩ := id I
  dsimp only at RX RY
  unfold wpX_crash
  dsimp only
  refine xg_reach I1 RX ar _ (fun b hb => ?_)
  dsimp only
  refine xg_chg I1 RX hb (pg_C_le I1) _ ?_
  by_cases z : v1 ≤ nI (pg_cn (pg_F (pg_C r g) (pg_C cr cg) va cva g cg) 12)
  · refine br_t z ?_
    unfold wX_crash_19
    refine br_t rfl (xg_28 I1 RX RY (k + 4) 0 _ (fun s u' hu => ?_))
    unfold wpY_crash
    dsimp only
    refine yg_chg I1 RY _ (br_t z ?_)
    unfold wY_crash_13
    exact br_t rfl (hu _ (fun v' hv' => ⟨rfl, hv'⟩))
  · refine br_f z ?_
    unfold wX_crash_19
    refine br_f (by decide) (xg_cm hb _ (fun a c l ha hc hl => ?_))
    dsimp only
    unfold wX_crash_28
    refine xg_rs _ (fun a2 c2 l2 ha2 hc2 hl2 => ?_)
    dsimp only
    have RX' := pg_XR_abort (pg_XR_commit I1 RX ha hc hl) ha2 hc2 hl2
    refine br_f (by decide) ?_
    unfold wpY_crash
    dsimp only
    refine yg_chg I1 RY _ (br_f z ?_)
    unfold wY_crash_13
    refine br_f (by decide) (yg_commit I1 RY _ (fun a' c' RY' => ?_))
    dsimp only
    unfold wY_crash_23
    refine yg_abort (pg_I_commit I1) RY' _ (fun a3 c3 h3 RY3 => ?_)
    exact br_f (by decide) ⟨rfl, r, fun _ => 0, va, g, pg_C r g, r, va, g, pg_I_abort (pg_I_commit I1), RX', RY3⟩
theorem i_vc_reachable {k : Nat} {u : SX} {v : SY} (I : i_Rel k u v) (hk : k + 4 ≤ 2048) : wpX_reachable (fun r u' => wpY_reachable (fun r' => r' = r ∧ i_Rel (k + 4) u' v) v) u := by
  obtain ⟨fr, fc, ah, av, al, ac, acv, acl, ar⟩ := u
  obtain ⟨gr, fo, yv, yt, yh, ov, ot⟩ := v
  obtain ⟨r, hd, va, g, L, cr, cva, cg, I1, RX, RY⟩ := id I
  dsimp only at RX RY
  unfold wpX_reachable
  dsimp only
  refine xg_reach I1 RX ar _ (fun b hb => ?_)
  dsimp only
  refine ⟨13, xg_rc_l hb _ ?_ 12 0 rfl⟩
  unfold wpY_reachable
  dsimp only
  refine yg_reached I1 RY _ (fun z hz => ?_)
  exact yg_size hz _ ⟨rfl, r, hd, va, g, L, cr, cva, cg, I1, RX, RY⟩
end
