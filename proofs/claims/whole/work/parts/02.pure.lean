/-! sets of numbers 1 to 12, the twelve passes, counting -/
def pg_add (S : Nat → Bool) (q : Nat) : Nat → Bool := fun p => S p || (decide (p ≠ 0) && decide (p = q))
def pg_hx (g : Nat → Nat) (S : Nat → Bool) (k : Nat) : Nat → Bool := if S (k / 2) = true then pg_add S (g k) else S
def pg_ps (g : Nat → Nat) (S : Nat → Bool) : Nat → Nat → Bool
  | 0 => S
  | n + 1 => pg_hx g (pg_ps g S n) (n + 2)
def pg_sp (g : Nat → Nat) (S : Nat → Bool) : Nat → Nat → Bool
  | 0 => S
  | n + 1 => pg_ps g (pg_sp g S n) 24
def pg_cn (S : Nat → Bool) : Nat → Nat
  | 0 => 0
  | n + 1 => pg_cn S n + (if S (n + 1) = true then 1 else 0)
def pg_no : Nat → Bool := fun _ => false
def pg_one (r : Nat) : Nat → Bool := pg_add pg_no r
def pg_hs (hd : Nat → Nat) (S : Nat → Bool) : Nat → Nat → Bool
  | 0 => S
  | n + 1 => pg_add (pg_hs hd S n) (hd n)
def pg_cl (g : Nat → Nat) (L : Nat → Bool) : Prop := ∀ k, 2 ≤ k → k < 26 → L (k / 2) = true → g k ≠ 0 → L (g k) = true
def pg_le (S L : Nat → Bool) : Prop := ∀ p, S p = true → L p = true
/-- the first number from o on, of d numbers, that is not in U; 0 if there is none -/
def pg_ff (U : Nat → Bool) : Nat → Nat → Nat
  | 0, _ => 0
  | d + 1, o => if U o = true then pg_ff U d (o + 1) else o

theorem pg_add_iff {S : Nat → Bool} {q p : Nat} : pg_add S q p = true ↔ S p = true ∨ (p ≠ 0 ∧ p = q) := by
  simp only [pg_add, Bool.or_eq_true, Bool.and_eq_true, decide_eq_true_eq]
theorem pg_add_0 (S : Nat → Bool) : pg_add S 0 = S := by
  funext p
  apply Bool.eq_iff_iff.mpr
  rw [pg_add_iff]
  constructor
  · intro h
    rcases h with h | ⟨h, e⟩
    · exact h
    · exact absurd e h
  · exact Or.inl
theorem pg_add_m {S : Nat → Bool} {q : Nat} : pg_le S (pg_add S q) := fun _ h => pg_add_iff.mpr (Or.inl h)
theorem pg_add_s {S L : Nat → Bool} {q : Nat} (h : pg_le S L) (hq : q ≠ 0 → L q = true) : pg_le (pg_add S q) L := by
  intro p hp
  rcases pg_add_iff.mp hp with hs | ⟨h0, e⟩
  · exact h p hs
  · subst e
    exact hq h0
theorem pg_no_s {L : Nat → Bool} : pg_le pg_no L := fun _ h => absurd h (by simp [pg_no])
theorem pg_one_s {L : Nat → Bool} {q : Nat} (hq : q ≠ 0 → L q = true) : pg_le (pg_one q) L := pg_add_s pg_no_s hq
theorem pg_one_in {q : Nat} (h : q ≠ 0) : pg_one q q = true := pg_add_iff.mpr (Or.inr ⟨h, rfl⟩)
theorem pg_hs_s {S L : Nat → Bool} {hd : Nat → Nat} (h : pg_le S L) : ∀ n, (∀ j, j < n → hd j ≠ 0 → L (hd j) = true) → pg_le (pg_hs hd S n) L := by
  intro n
  induction n with
  | zero => exact fun _ => h
  | succ n ih => exact fun hh => pg_add_s (ih (fun j hj => hh j (by omega))) (hh n (by omega))
theorem pg_hx_iff {g : Nat → Nat} {S : Nat → Bool} {k p : Nat} : pg_hx g S k p = true ↔ S p = true ∨ (S (k / 2) = true ∧ p ≠ 0 ∧ p = g k) := by
  unfold pg_hx
  by_cases h : S (k / 2) = true
  · rw [if_pos h, pg_add_iff]
    constructor
    · rintro (a | a)
      · exact Or.inl a
      · exact Or.inr ⟨h, a⟩
    · rintro (a | a)
      · exact Or.inl a
      · exact Or.inr a.2
  · rw [if_neg h]
    constructor
    · exact Or.inl
    · rintro (a | a)
      · exact a
      · exact absurd a.1 h
theorem pg_hx_m {g : Nat → Nat} {S : Nat → Bool} {k : Nat} : pg_le S (pg_hx g S k) := fun _ h => pg_hx_iff.mpr (Or.inl h)
theorem pg_ps_m {g : Nat → Nat} {S : Nat → Bool} (n : Nat) : pg_le S (pg_ps g S n) := by
  induction n with
  | zero => exact fun _ h => h
  | succ n ih => exact fun p h => pg_hx_m p (ih p h)
theorem pg_sp_m {g : Nat → Nat} {S : Nat → Bool} (n : Nat) : pg_le S (pg_sp g S n) := by
  induction n with
  | zero => exact fun _ h => h
  | succ n ih => exact fun p h => pg_ps_m 24 p (ih p h)
theorem pg_ps_mm {g : Nat → Nat} {S : Nat → Bool} {n : Nat} (d : Nat) : pg_le (pg_ps g S n) (pg_ps g S (n + d)) := by
  induction d with
  | zero => exact fun _ h => h
  | succ d ih => exact fun p h => pg_hx_m p (ih p h)
theorem pg_hx_s {g : Nat → Nat} {S L : Nat → Bool} {k : Nat} (hL : pg_cl g L) (h : pg_le S L) (h2 : 2 ≤ k) (h26 : k < 26) : pg_le (pg_hx g S k) L := by
  intro p hp
  rcases pg_hx_iff.mp hp with hs | ⟨hk, h0, e⟩
  · exact h p hs
  · subst e
    exact hL k h2 h26 (h _ hk) h0
theorem pg_ps_s {g : Nat → Nat} {S L : Nat → Bool} (hL : pg_cl g L) (h : pg_le S L) (n : Nat) : n ≤ 24 → pg_le (pg_ps g S n) L := by
  induction n with
  | zero => exact fun _ => h
  | succ n ih => exact fun hn => pg_hx_s hL (ih (by omega)) (by omega) (by omega)
theorem pg_sp_s {g : Nat → Nat} {S L : Nat → Bool} (hL : pg_cl g L) (h : pg_le S L) (n : Nat) : pg_le (pg_sp g S n) L := by
  induction n with
  | zero => exact h
  | succ n ih => exact pg_ps_s hL ih 24 (Nat.le_refl 24)
theorem pg_hx_i {g : Nat → Nat} {S : Nat → Bool} {k : Nat} (h : S (k / 2) = true → g k ≠ 0 → S (g k) = true) : pg_hx g S k = S := by
  funext p
  apply Bool.eq_iff_iff.mpr
  rw [pg_hx_iff]
  constructor
  · rintro (a | ⟨a, b, c⟩)
    · exact a
    · subst c
      exact h a b
  · exact Or.inl
theorem pg_ps_i {g : Nat → Nat} {S : Nat → Bool} (h : pg_cl g S) (n : Nat) : n ≤ 24 → pg_ps g S n = S := by
  induction n with
  | zero => exact fun _ => rfl
  | succ n ih =>
    intro hn
    show pg_hx g (pg_ps g S n) (n + 2) = S
    rw [ih (by omega)]
    exact pg_hx_i (h (n + 2) (by omega) (by omega))
theorem pg_cn_m {S T : Nat → Bool} (h : pg_le S T) (n : Nat) : pg_cn S n ≤ pg_cn T n := by
  induction n with
  | zero => exact Nat.le_refl 0
  | succ n ih =>
    show pg_cn S n + (if S (n + 1) = true then 1 else 0) ≤ pg_cn T n + (if T (n + 1) = true then 1 else 0)
    by_cases a : S (n + 1) = true
    · rw [if_pos a, if_pos (h _ a)]
      omega
    · rw [if_neg a]
      omega
theorem pg_cn_l {S T : Nat → Bool} (h : pg_le S T) {q : Nat} (h1 : 1 ≤ q) (hT : T q = true) (hS : ¬ S q = true) (n : Nat) : q ≤ n → pg_cn S n < pg_cn T n := by
  induction n with
  | zero => intro hq; omega
  | succ n ih =>
    intro hq
    show pg_cn S n + (if S (n + 1) = true then 1 else 0) < pg_cn T n + (if T (n + 1) = true then 1 else 0)
    by_cases e : q = n + 1
    · rw [← e, if_neg hS, if_pos hT]
      have := pg_cn_m h n
      omega
    · have hi := ih (by omega)
      by_cases a : S (n + 1) = true
      · rw [if_pos a, if_pos (h _ a)]
        omega
      · rw [if_neg a]
        omega
theorem pg_cn_b (S : Nat → Bool) (n : Nat) : pg_cn S n ≤ n := by
  induction n with
  | zero => exact Nat.le_refl 0
  | succ n ih =>
    show pg_cn S n + (if S (n + 1) = true then 1 else 0) ≤ n + 1
    by_cases a : S (n + 1) = true
    · rw [if_pos a]
      omega
    · rw [if_neg a]
      omega
theorem pg_cn_f {S : Nat → Bool} (n : Nat) : n ≤ pg_cn S n → ∀ q, 1 ≤ q → q ≤ n → S q = true := by
  induction n with
  | zero => intro _ q h1 h2; omega
  | succ n ih =>
    intro h q h1 h2
    have hh : n + 1 ≤ pg_cn S n + (if S (n + 1) = true then 1 else 0) := h
    have hb := pg_cn_b S n
    by_cases a : S (n + 1) = true
    · rw [if_pos a] at hh
      by_cases e : q = n + 1
      · rw [e]
        exact a
      · exact ih (by omega) q h1 (by omega)
    · rw [if_neg a] at hh
      omega
theorem pg_sp_g {g : Nat → Nat} {S : Nat → Bool} (hb : ∀ k, g k ≤ 12) (n : Nat) : n ≤ pg_cn (pg_sp g S n) 12 ∨ pg_cl g (pg_sp g S n) := by
  induction n with
  | zero => exact Or.inl (Nat.zero_le _)
  | succ n ih =>
    by_cases hc : pg_cl g (pg_sp g S n)
    · refine Or.inr ?_
      show pg_cl g (pg_ps g (pg_sp g S n) 24)
      rw [pg_ps_i hc 24 (Nat.le_refl 24)]
      exact hc
    · refine Or.inl (Classical.byContradiction fun hlt => hc ?_)
      intro k h2 h26 hk h0
      refine Classical.byContradiction fun hn => hlt ?_
      have hin : pg_ps g (pg_sp g S n) 24 (g k) = true := by
        obtain ⟨m, rfl⟩ : ∃ m, k = m + 2 := ⟨k - 2, by omega⟩
        have h1 : pg_ps g (pg_sp g S n) (m + 1) (g (m + 2)) = true := pg_hx_iff.mpr (Or.inr ⟨pg_ps_m m _ hk, h0, rfl⟩)
        have h3 := pg_ps_mm (n := m + 1) (24 - (m + 1)) _ h1
        rw [show m + 1 + (24 - (m + 1)) = 24 by omega] at h3
        exact h3
      have hlt2 := pg_cn_l (S := pg_sp g S n) (pg_ps_m 24) (q := g k) (by omega) hin hn 12 (hb k)
      show n + 1 ≤ pg_cn (pg_ps g (pg_sp g S n) 24) 12
      rcases ih with h | h
      · omega
      · exact absurd h hc
theorem pg_sp_cl {g : Nat → Nat} {S : Nat → Bool} (hb : ∀ k, g k ≤ 12) : pg_cl g (pg_sp g S 12) := by
  rcases pg_sp_g (S := S) hb 12 with h | h
  · intro k _ _ _ h0
    exact pg_cn_f 12 h (g k) (by omega) (hb k)
  · exact h
theorem pg_ff_b (U : Nat → Bool) (d : Nat) : ∀ o, pg_ff U d o ≠ 0 → o ≤ pg_ff U d o ∧ pg_ff U d o < o + d := by
  induction d with
  | zero => intro o h; exact absurd rfl h
  | succ d ih =>
    intro o
    show (if U o = true then pg_ff U d (o + 1) else o) ≠ 0 → o ≤ (if U o = true then pg_ff U d (o + 1) else o) ∧ (if U o = true then pg_ff U d (o + 1) else o) < o + (d + 1)
    by_cases a : U o = true
    · rw [if_pos a]
      intro h
      have := ih (o + 1) h
      omega
    · rw [if_neg a]
      intro _
      omega
