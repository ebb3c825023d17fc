/-! what each side's arrays hold of the pure state, on a set L of numbers -/
def pg_H (a : Nat → Int32) (hd : Nat → Nat) : Prop := ∀ j, j < 4 → a j = nI (hd j)
def pg_K (a : Nat → Int32) (hd : Nat → Nat) : Prop := ∀ j, j < 4 → a j = pg_m (hd j)
def pg_V (a va : Nat → Int32) (L : Nat → Bool) : Prop := ∀ o, 1 ≤ o → o ≤ 12 → L o = true → a o = va o
def pg_W (a va : Nat → Int32) (L : Nat → Bool) : Prop := ∀ i, i < 12 → L (i + 1) = true → a i = va (i + 1)
def pg_G (a : Nat → Int32) (g : Nat → Nat) (L : Nat → Bool) : Prop := ∀ k, 2 ≤ k → k < 26 → L (k / 2) = true → a k = nI (g k)
def pg_T (a : Nat → Int32) (g : Nat → Nat) (L : Nat → Bool) : Prop := ∀ i, i < 24 → L (i / 2 + 1) = true → a i = pg_m (g (i + 2))
def pg_u (f : Nat → Nat) (k x : Nat) : Nat → Nat := fun j => if j = k then x else f j
theorem pg_us {f : Nat → Nat} {k x : Nat} : pg_u f k x k = x := if_pos rfl
theorem pg_un {f : Nat → Nat} {k j x : Nat} (h : j ≠ k) : pg_u f k x j = f j := if_neg h
def pg_I (r : Nat) (hd g : Nat → Nat) (L : Nat → Bool) (cr : Nat) (cg : Nat → Nat) : Prop :=
  r ≤ 12 ∧ (∀ j, hd j ≤ 12) ∧ (∀ k, g k ≤ 12) ∧ cr ≤ 12 ∧ (∀ k, cg k ≤ 12) ∧ pg_cl g L ∧ (r ≠ 0 → L r = true) ∧ (∀ j, j < 4 → hd j ≠ 0 → L (hd j) = true)
theorem pg_ub {f : Nat → Nat} {k x : Nat} (h : ∀ j, f j ≤ 12) (hx : x ≤ 12) : ∀ j, pg_u f k x j ≤ 12 := by
  intro j
  by_cases e : j = k
  · subst e
    rw [pg_us]
    exact hx
  · rw [pg_un e]
    exact h j
theorem pg_H_u {a : Nat → Int32} {hd : Nat → Nat} (h : pg_H a hd) (q x : Nat) : pg_H (upd a q (nI x)) (pg_u hd q x) := by
  intro j hj
  by_cases e : j = q
  · subst e
    rw [pk_us, pg_us]
  · rw [pk_un e, pg_un e]
    exact h j hj
theorem pg_K_u {a : Nat → Int32} {hd : Nat → Nat} (h : pg_K a hd) (q x : Nat) : pg_K (upd a q (pg_m x)) (pg_u hd q x) := by
  intro j hj
  by_cases e : j = q
  · subst e
    rw [pk_us, pg_us]
  · rw [pk_un e, pg_un e]
    exact h j hj
theorem pg_hd_u {hd : Nat → Nat} {L : Nat → Bool} (h : ∀ j, j < 4 → hd j ≠ 0 → L (hd j) = true) {q x : Nat} (hx : x ≠ 0 → L x = true) : ∀ j, j < 4 → pg_u hd q x j ≠ 0 → L (pg_u hd q x j) = true := by
  intro j hj
  by_cases e : j = q
  · subst e
    rw [pg_us]
    exact hx
  · rw [pg_un e]
    exact h j hj
theorem pg_V_u {a va : Nat → Int32} {L : Nat → Bool} (h : pg_V a va L) (o : Nat) (x : Int32) : pg_V (upd a o x) (upd va o x) L := by
  intro p h1 h2 hp
  by_cases e : p = o
  · subst e
    rw [pk_us, pk_us]
  · rw [pk_un e, pk_un e]
    exact h p h1 h2 hp
theorem pg_W_u {a va : Nat → Int32} {L : Nat → Bool} (h : pg_W a va L) (o : Nat) (x : Int32) : pg_W (upd a o x) (upd va (o + 1) x) L := by
  intro p h1 hp
  by_cases e : p = o
  · subst e
    rw [pk_us, pk_us]
  · rw [pk_un e, pk_un (show p + 1 ≠ o + 1 by omega)]
    exact h p h1 hp
theorem pg_G_u {a : Nat → Int32} {g : Nat → Nat} {L : Nat → Bool} (h : pg_G a g L) (q x : Nat) : pg_G (upd a q (nI x)) (pg_u g q x) L := by
  intro k h1 h2 hk
  by_cases e : k = q
  · subst e
    rw [pk_us, pg_us]
  · rw [pk_un e, pg_un e]
    exact h k h1 h2 hk
theorem pg_T_u {a : Nat → Int32} {g : Nat → Nat} {L : Nat → Bool} (h : pg_T a g L) (q x : Nat) : pg_T (upd a q (pg_m x)) (pg_u g (q + 2) x) L := by
  intro k h1 hk
  by_cases e : k = q
  · subst e
    rw [pk_us, pg_us]
  · rw [pk_un e, pg_un (show k + 2 ≠ q + 2 by omega)]
    exact h k h1 hk
theorem pg_cl_u {g : Nat → Nat} {L : Nat → Bool} (h : pg_cl g L) {q x : Nat} (hx : x ≠ 0 → L x = true) : pg_cl (pg_u g q x) L := by
  intro k h2 h26 hk
  by_cases e : k = q
  · subst e
    rw [pg_us]
    exact hx
  · rw [pg_un e]
    exact h k h2 h26 hk
theorem pg_V_le {a va : Nat → Int32} {L C : Nat → Bool} (h : pg_V a va L) (hc : pg_le C L) : pg_V a va C := fun o h1 h2 ho => h o h1 h2 (hc o ho)
theorem pg_W_le {a va : Nat → Int32} {L C : Nat → Bool} (h : pg_W a va L) (hc : pg_le C L) : pg_W a va C := fun o h1 ho => h o h1 (hc _ ho)
theorem pg_G_le {a : Nat → Int32} {g : Nat → Nat} {L C : Nat → Bool} (h : pg_G a g L) (hc : pg_le C L) : pg_G a g C := fun o h1 h2 ho => h o h1 h2 (hc _ ho)
theorem pg_T_le {a : Nat → Int32} {g : Nat → Nat} {L C : Nat → Bool} (h : pg_T a g L) (hc : pg_le C L) : pg_T a g C := fun o h1 ho => h o h1 (hc _ ho)
theorem pg_V_c {a b va : Nat → Int32} {L : Nat → Bool} (h : pg_V a va L) (e : ∀ o, 1 ≤ o → o ≤ 12 → b o = a o) : pg_V b va L := fun o h1 h2 ho => (e o h1 h2).trans (h o h1 h2 ho)
theorem pg_G_c {a b : Nat → Int32} {g : Nat → Nat} {L : Nat → Bool} (h : pg_G a g L) (e : ∀ k, k < 26 → b k = a k) : pg_G b g L := fun k h1 h2 hk => (e k h2).trans (h k h1 h2 hk)
/-! make: the new number joins L -/
theorem pg_V_new {a va : Nat → Int32} {L : Nat → Bool} (h : pg_V a va L) (o : Nat) (x : Int32) : pg_V (upd a o x) (upd va o x) (pg_add L o) := by
  intro p h1 h2 hp
  by_cases e : p = o
  · subst e
    rw [pk_us, pk_us]
  · rw [pk_un e, pk_un e]
    rcases pg_add_iff.mp hp with c | c
    · exact h p h1 h2 c
    · exact absurd c.2 e
theorem pg_W_new {a va : Nat → Int32} {L : Nat → Bool} (h : pg_W a va L) (o : Nat) (x : Int32) : pg_W (upd a o x) (upd va (o + 1) x) (pg_add L (o + 1)) := by
  intro p h1 hp
  by_cases e : p = o
  · subst e
    rw [pk_us, pk_us]
  · rw [pk_un e, pk_un (show p + 1 ≠ o + 1 by omega)]
    rcases pg_add_iff.mp hp with c | c
    · exact h p h1 c
    · omega
theorem pg_G_new {a : Nat → Int32} {g : Nat → Nat} {L : Nat → Bool} (h : pg_G a g L) (o : Nat) : pg_G (upd (upd a (2 * o) (nI 0)) (2 * o + 1) (nI 0)) (pg_u (pg_u g (2 * o) 0) (2 * o + 1) 0) (pg_add L o) := by
  intro k h1 h2 hk
  by_cases e : k = 2 * o + 1
  · subst e
    rw [pk_us, pg_us]
  · rw [pk_un e, pg_un e]
    by_cases e2 : k = 2 * o
    · subst e2
      rw [pk_us, pg_us]
    · rw [pk_un e2, pg_un e2]
      rcases pg_add_iff.mp hk with c | c
      · exact h k h1 h2 c
      · omega
theorem pg_T_new {a : Nat → Int32} {g : Nat → Nat} {L : Nat → Bool} (h : pg_T a g L) (o : Nat) : pg_T (upd (upd a (2 * o) (pg_m 0)) (2 * o + 1) (pg_m 0)) (pg_u (pg_u g (2 * (o + 1)) 0) (2 * (o + 1) + 1) 0) (pg_add L (o + 1)) := by
  intro k h1 hk
  by_cases e : k = 2 * o + 1
  · subst e
    rw [pk_us, show 2 * o + 1 + 2 = 2 * (o + 1) + 1 by omega, pg_us]
  · rw [pk_un e, pg_un (show k + 2 ≠ 2 * (o + 1) + 1 by omega)]
    by_cases e2 : k = 2 * o
    · subst e2
      rw [pk_us, show 2 * o + 2 = 2 * (o + 1) by omega, pg_us]
    · rw [pk_un e2, pg_un (show k + 2 ≠ 2 * (o + 1) by omega)]
      rcases pg_add_iff.mp hk with c | c
      · exact h k h1 c
      · omega
theorem pg_cl_new {g : Nat → Nat} {L : Nat → Bool} (h : pg_cl g L) (o : Nat) : pg_cl (pg_u (pg_u g (2 * o) 0) (2 * o + 1) 0) (pg_add L o) := by
  intro k h1 h2 hk
  by_cases e : k = 2 * o + 1
  · subst e
    rw [pg_us]
    exact fun z => absurd rfl z
  · rw [pg_un e]
    by_cases e2 : k = 2 * o
    · subst e2
      rw [pg_us]
      exact fun z => absurd rfl z
    · rw [pg_un e2]
      intro h0
      rcases pg_add_iff.mp hk with c | c
      · exact pg_add_m _ (h k h1 h2 c h0)
      · omega
