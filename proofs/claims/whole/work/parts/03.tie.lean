/-! the class's marks (an array of 0 and 1) and the reference's bits against a set -/
def pg_A (b : Nat → Int32) (S : Nat → Bool) : Prop := ∀ p, 1 ≤ p → p ≤ 12 → b p = if S p = true then 1 else 0
def pg_B (z : Int32) (S : Nat → Bool) : Prop := ∀ p, p < 12 → bt z p = S (p + 1)
/-- the reference's number for the class's number: one less, -1 for nothing -/
def pg_m : Nat → Int32
  | 0 => -1
  | n + 1 => nI n
def pg_bit : Nat → Int32
  | 0 => 0
  | n + 1 => (1 : Int32) <<< (nI n &&& 31)
theorem pg_nb1 : vp_nar .boolean 1 = 1 := rfl
theorem pg_nb0 : vp_nar .boolean 0 = 0 := rfl
theorem pg_A_add {b : Nat → Int32} {S : Nat → Bool} (h : pg_A b S) (q : Nat) : pg_A (upd b q 1) (pg_add S q) := by
  intro p h1 h2
  by_cases e : p = q
  · subst e
    rw [pk_us, if_pos (pg_add_iff.mpr (Or.inr ⟨by omega, rfl⟩))]
  · rw [pk_un e, h p h1 h2]
    by_cases s : S p = true
    · rw [if_pos s, if_pos (pg_add_m p s)]
    · rw [if_neg s, if_neg]
      intro a
      rcases pg_add_iff.mp a with c | c
      · exact s c
      · exact e c.2
theorem pg_A_no {b : Nat → Int32} (h : ∀ p, p < 13 → b p = 0) : pg_A b pg_no := fun p _ h2 => by
  rw [h p (by omega), if_neg (by simp [pg_no])]
theorem pg_A_1 {b : Nat → Int32} {S : Nat → Bool} (h : pg_A b S) {p : Nat} (h1 : 1 ≤ p) (h2 : p ≤ 12) (s : S p = true) : b p = 1 := by
  rw [h p h1 h2, if_pos s]
theorem pg_A_0 {b : Nat → Int32} {S : Nat → Bool} (h : pg_A b S) {p : Nat} (h1 : 1 ≤ p) (h2 : p ≤ 12) (s : ¬ S p = true) : b p = 0 := by
  rw [h p h1 h2, if_neg s]
theorem pg_A_z {b : Nat → Int32} {S : Nat → Bool} (h : pg_A b S) {p : Nat} (h1 : 1 ≤ p) (h2 : p ≤ 12) : b p = 0 ↔ ¬ S p = true := by
  rw [h p h1 h2]
  by_cases s : S p = true
  · rw [if_pos s]
    exact ⟨fun e => absurd e (by decide), fun n => absurd s n⟩
  · rw [if_neg s]
    exact ⟨fun _ => s, fun _ => rfl⟩
theorem pg_b1 (i : Nat) : bt 1 i = decide (i = 0) := by
  rcases Nat.lt_or_ge i 32 with h | h
  · exact (by decide +kernel : ∀ i, i < 32 → bt 1 i = decide (i = 0)) i h
  · rw [b_big h, decide_eq_false (by omega)]
theorem pg_in {z : Int32} {o : Nat} (ho : o < 32) : (z >>> (nI o &&& 31)) &&& 1 = if bt z o = true then 1 else 0 := by
  apply b_ext
  intro i hi
  rw [b_and, b_sshr o ho z hi, pg_b1]
  by_cases e : i = 0
  · subst e
    rw [if_pos (show o + 0 < 32 by omega), Nat.add_zero]
    by_cases s : bt z o = true
    · rw [if_pos s, s]
      rfl
    · rw [if_neg s, show bt z o = false from by simpa using s]
      rfl
  · rw [decide_eq_false e, Bool.and_false]
    by_cases s : bt z o = true
    · rw [if_pos s, pg_b1, decide_eq_false e]
    · rw [if_neg s, b_0]
theorem pg_in1 {z : Int32} {o : Nat} (ho : o < 32) : (z >>> (nI o &&& 31)) &&& 1 = 1 ↔ bt z o = true := by
  rw [pg_in ho]
  by_cases s : bt z o = true
  · rw [if_pos s]
    exact ⟨fun _ => s, fun _ => rfl⟩
  · rw [if_neg s]
    exact ⟨fun e => absurd e (by decide), fun n => absurd n s⟩
theorem pg_B_in {z : Int32} {S : Nat → Bool} (h : pg_B z S) {o : Nat} (ho : o < 12) : (z >>> (nI o &&& 31)) &&& 1 = 1 ↔ S (o + 1) = true := by
  rw [pg_in1 (by omega), h o ho]
theorem pg_bit_b (q : Nat) (hq : q ≤ 12) {i : Nat} (hi : i < 32) : bt (pg_bit q) i = decide (i + 1 = q) := by
  match q, hq with
  | 0, _ => exact (b_0 i).trans (decide_eq_false (by omega)).symm
  | q + 1, hq =>
    show bt ((1 : Int32) <<< (nI q &&& 31)) i = _
    rw [b_shl q (by omega) 1 hi, pg_b1, ← Bool.decide_and]
    exact decide_eq_decide.mpr (by omega)
theorem pg_B_add {z : Int32} {S : Nat → Bool} (h : pg_B z S) {q : Nat} (hq : q ≤ 12) : pg_B (z ||| pg_bit q) (pg_add S q) := by
  intro p hp
  rw [b_or, pg_bit_b q hq (by omega), h p hp]
  show (S (p + 1) || decide (p + 1 = q)) = (S (p + 1) || (decide (p + 1 ≠ 0) && decide (p + 1 = q)))
  rw [decide_eq_true (show p + 1 ≠ 0 by omega), Bool.true_and]
theorem pg_B_0 : pg_B 0 pg_no := fun p _ => b_0 p
theorem pg_B_one {q : Nat} (hq : q ≤ 12) : pg_B (pg_bit q) (pg_one q) := by
  intro p hp
  rw [pg_bit_b q hq (by omega)]
  show decide (p + 1 = q) = (false || (decide (p + 1 ≠ 0) && decide (p + 1 = q)))
  rw [decide_eq_true (show p + 1 ≠ 0 by omega), Bool.true_and, Bool.false_or]
theorem pg_B_or {z w : Int32} {S T : Nat → Bool} (h : pg_B z S) (k : pg_B w T) : pg_B (z ||| w) (fun p => S p || T p) := by
  intro p hp
  rw [b_or, h p hp, k p hp]
theorem pg_m_neg {q : Nat} (hq : q ≤ 12) : pg_m q < 0 ↔ q = 0 := by
  match q, hq with
  | 0, _ => exact ⟨fun _ => rfl, fun _ => by decide⟩
  | q + 1, hq => exact ⟨fun h => absurd h (nI_pos (by omega)), fun h => by omega⟩
theorem pg_m_ge {q : Nat} (hq : q ≤ 12) : 0 ≤ pg_m q ↔ q ≠ 0 := by
  match q, hq with
  | 0, _ => exact ⟨fun h => absurd h (by decide), fun h => absurd rfl h⟩
  | q + 1, hq => exact ⟨fun _ => by omega, fun _ => nI_pos' (by omega)⟩
theorem pg_m_eq {a b : Nat} (ha : a ≤ 12) (hb : b ≤ 12) : pg_m a = pg_m b ↔ a = b := by
  match a, b, ha, hb with
  | 0, 0, _, _ => exact ⟨fun _ => rfl, fun _ => rfl⟩
  | 0, b + 1, _, hb => exact ⟨fun h => absurd (show nI b < 0 from (show nI b = -1 from h.symm) ▸ (by decide : (-1 : Int32) < 0)) (nI_pos (by omega)), fun h => by omega⟩
  | a + 1, 0, ha, _ => exact ⟨fun h => absurd (show nI a < 0 from (show nI a = -1 from h) ▸ (by decide : (-1 : Int32) < 0)) (nI_pos (by omega)), fun h => by omega⟩
  | a + 1, b + 1, ha, hb =>
    show nI a = nI b ↔ _
    rw [nI_eq (by omega) (by omega)]
    omega
theorem pg_m_s {q : Nat} (h : q ≠ 0) : pg_m q = nI (q - 1) := by
  match q, h with
  | 0, h => exact absurd rfl h
  | q + 1, _ => rfl
theorem pg_bit_s {q : Nat} (h : q ≠ 0) : pg_bit q = (1 : Int32) <<< (nI (q - 1) &&& 31) := by
  match q, h with
  | 0, h => exact absurd rfl h
  | q + 1, _ => rfl
