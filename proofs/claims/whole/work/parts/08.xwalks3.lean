/-! the class: commitReached, restoreCommitted -/
theorem xg_nbA {b : Nat → Int32} {S : Nat → Bool} (h : pg_A b S) {p : Nat} (h1 : 1 ≤ p) (h2 : p ≤ 12) : vp_nar .boolean (b p) = if S p = true then 1 else 0 := by
  rw [h p h1 h2]
  by_cases s : S p = true
  · rw [if_pos s]
    exact pg_nb1
  · rw [if_neg s]
    exact pg_nb0
theorem xg_cm2 {fr fc : Int32} {ah av al ac acv b : Nat → Int32} (post : SX → Prop) (H : ∀ a : Nat → Int32, (∀ k, k < 26 → a k = al k) → post (fr, fc, ah, av, al, ac, acv, a, b)) (d : Nat) :
    ∀ (i : Nat) (a : Nat → Int32), i + d = 26 → (∀ k, k < i → a k = al k) → wX_commitReached_48 post fr fc (d + 1) (nI i) ah av al ac acv a b := by
  induction d with
  | zero =>
    intro i a hi ha
    exact pk_le 26 i (fun _ => H a (fun p hp => ha p (by omega))) (fun h => absurd h (by omega))
  | succ d ih =>
    intro i a hi ha
    refine pk_le 26 i (fun h => absurd h (by omega)) (fun _ => ⟨pk_in i 26 (by omega), pk_in i 26 (by omega), nm_e (nm_r (nI_1 i) (ih (i + 1) _ (by omega) ?_))⟩)
    rw [nI_clamp (by omega)]
    intro p hp
    by_cases e : p = i
    · subst e
      exact pk_us
    · rw [pk_un e]
      exact ha p (by omega)
theorem xg_cm1 {fr fc : Int32} {ah av al acl b : Nat → Int32} {S : Nat → Bool} (hA : pg_A b S) (post : SX → Prop)
    (H : ∀ a c : Nat → Int32, pg_A a S → (∀ o, 1 ≤ o → o ≤ 12 → c o = av o) → ∃ n, wX_commitReached_48 post fr fc n 0 ah av al a c acl b) (d : Nat) :
    ∀ (i : Nat) (a c : Nat → Int32), i + d = 12 → (∀ p, 1 ≤ p → p ≤ i → a p = if S p = true then 1 else 0) → (∀ p, 1 ≤ p → p ≤ i → c p = av p) → wX_commitReached_10 post fr fc (d + 1) (nI (i + 1)) ah av al a c acl b := by
  induction d with
  | zero =>
    intro i a c hi ha hc
    exact pk_lt 12 (i + 1) (fun _ => H a c (fun p h1 h2 => ha p h1 (by omega)) (fun p h1 h2 => hc p h1 (by omega))) (fun h => absurd h (by omega))
  | succ d ih =>
    intro i a c hi ha hc
    refine pk_lt 12 (i + 1) (fun h => absurd h (by omega)) (fun _ => ?_)
    rw [nI_clamp (n := i + 1) (by omega), xg_nbA hA (by omega) (by omega)]
    refine ⟨pk_in (i + 1) 13 (by omega), pk_in (i + 1) 13 (by omega), nm_e ⟨pk_in (i + 1) 13 (by omega), pk_in (i + 1) 13 (by omega), nm_e (nm_r (nI_1 (i + 1)) (ih (i + 1) _ _ (by omega) ?_ ?_))⟩⟩
    · intro p h1 hp
      by_cases e : p = i + 1
      · subst e
        exact pk_us
      · rw [pk_un e]
        exact ha p h1 (by omega)
    · intro p h1 hp
      by_cases e : p = i + 1
      · subst e
        exact pk_us
      · rw [pk_un e]
        exact hc p h1 (by omega)
theorem xg_cm {fr fc : Int32} {ah av al ac acv acl b : Nat → Int32} {S : Nat → Bool} (hA : pg_A b S) (post : SX → Prop)
    (H : ∀ a c l : Nat → Int32, pg_A a S → (∀ o, 1 ≤ o → o ≤ 12 → c o = av o) → (∀ k, k < 26 → l k = al k) → post (fr, fr, ah, av, al, a, c, l, b)) : wpX_commitReached post (fr, fc, ah, av, al, ac, acv, acl, b) :=
  ⟨13, xg_cm1 hA post (fun a c ha hc => ⟨27, xg_cm2 post (fun l hl => H a c l ha hc hl) 26 0 acl rfl (fun k hk => absurd hk (by omega))⟩) 12 0 ac acv rfl (fun p h1 h2 => absurd h1 (by omega)) (fun p h1 h2 => absurd h1 (by omega))⟩
theorem xg_rs3 {fr fc : Int32} {ah av ac acv acl b : Nat → Int32} (post : SX → Prop) (H : ∀ a : Nat → Int32, (∀ k, k < 26 → a k = acl k) → post (fr, fc, ah, av, a, ac, acv, acl, b)) (d : Nat) :
    ∀ (i : Nat) (a : Nat → Int32), i + d = 26 → (∀ k, k < i → a k = acl k) → wX_restoreCommitted_56 post fr fc (d + 1) (nI i) ah av a ac acv acl b := by
  induction d with
  | zero =>
    intro i a hi ha
    exact pk_le 26 i (fun _ => H a (fun p hp => ha p (by omega))) (fun h => absurd h (by omega))
  | succ d ih =>
    intro i a hi ha
    refine pk_le 26 i (fun h => absurd h (by omega)) (fun _ => ⟨pk_in i 26 (by omega), pk_in i 26 (by omega), nm_e (nm_r (nI_1 i) (ih (i + 1) _ (by omega) ?_))⟩)
    rw [nI_clamp (by omega)]
    intro p hp
    by_cases e : p = i
    · subst e
      exact pk_us
    · rw [pk_un e]
      exact ha p (by omega)
theorem xg_rs2 {fr fc : Int32} {ah al ac acv acl b : Nat → Int32} (post : SX → Prop) (H : ∀ a : Nat → Int32, (∀ k, 1 ≤ k → k ≤ 12 → a k = acv k) → ∃ n, wX_restoreCommitted_56 post fr fc n 0 ah a al ac acv acl b) (d : Nat) :
    ∀ (i : Nat) (a : Nat → Int32), i + d = 12 → (∀ k, 1 ≤ k → k ≤ i → a k = acv k) → wX_restoreCommitted_30 post fr fc (d + 1) (nI (i + 1)) ah a al ac acv acl b := by
  induction d with
  | zero =>
    intro i a hi ha
    exact pk_lt 12 (i + 1) (fun _ => H a (fun p h1 hp => ha p h1 (by omega))) (fun h => absurd h (by omega))
  | succ d ih =>
    intro i a hi ha
    refine pk_lt 12 (i + 1) (fun h => absurd h (by omega)) (fun _ => ⟨pk_in (i + 1) 13 (by omega), pk_in (i + 1) 13 (by omega), nm_e (nm_r (nI_1 (i + 1)) (ih (i + 1) _ (by omega) ?_))⟩)
    rw [nI_clamp (by omega)]
    intro p h1 hp
    by_cases e : p = i + 1
    · subst e
      exact pk_us
    · rw [pk_un e]
      exact ha p h1 (by omega)
theorem xg_rs1 {fr fc : Int32} {av al ac acv acl b : Nat → Int32} (post : SX → Prop) (H : ∀ a : Nat → Int32, (∀ k, k < 4 → a k = 0) → ∃ n, wX_restoreCommitted_30 post fr fc n 1 a av al ac acv acl b) (d : Nat) :
    ∀ (i : Nat) (a : Nat → Int32), i + d = 4 → (∀ k, k < i → a k = 0) → wX_restoreCommitted_10 post fr fc (d + 1) (nI i) a av al ac acv acl b := by
  induction d with
  | zero =>
    intro i a hi ha
    exact pk_le 4 i (fun _ => H a (fun p hp => ha p (by omega))) (fun h => absurd h (by omega))
  | succ d ih =>
    intro i a hi ha
    refine pk_le 4 i (fun h => absurd h (by omega)) (fun _ => ⟨pk_in i 4 (by omega), nm_e (nm_r (nI_1 i) (ih (i + 1) _ (by omega) ?_))⟩)
    rw [nI_clamp (by omega)]
    intro p hp
    by_cases e : p = i
    · subst e
      exact pk_us
    · rw [pk_un e]
      exact ha p (by omega)
theorem xg_rs {fr fc : Int32} {ah av al ac acv acl b : Nat → Int32} (post : SX → Prop)
    (H : ∀ a c l : Nat → Int32, (∀ j, j < 4 → a j = 0) → (∀ o, 1 ≤ o → o ≤ 12 → c o = acv o) → (∀ k, k < 26 → l k = acl k) → post (fc, fc, a, c, l, ac, acv, acl, b)) : wpX_restoreCommitted post (fr, fc, ah, av, al, ac, acv, acl, b) :=
  ⟨5, xg_rs1 post (fun a ha => ⟨13, xg_rs2 post (fun c hc => ⟨27, xg_rs3 post (fun l hl => H a c l ha hc hl) 26 0 al rfl (fun k hk => absurd hk (by omega))⟩) 12 0 av rfl (fun p h1 h2 => absurd h1 (by omega))⟩) 4 0 ah rfl (fun k hk => absurd hk (by omega))⟩
/-! handles, links, one -/
def pg_k (q : Nat) : Int32 := if q = 0 then 0 else 1
theorem pg_ix4 (x : Int32) : (x < 0 ∨ nI 4 ≤ x) ∨ ∃ j : Nat, j < 4 ∧ x = nI j := by
  rcases pk_ix x (n := 4) (by decide) with h | h | h
  · exact Or.inl (Or.inl h)
  · exact Or.inl (Or.inr h)
  · exact Or.inr h
theorem pg_ix2 (x : Int32) : (x < 0 ∨ nI 2 ≤ x) ∨ ∃ j : Nat, j < 2 ∧ x = nI j := by
  rcases pk_ix x (n := 2) (by decide) with h | h | h
  · exact Or.inl (Or.inl h)
  · exact Or.inl (Or.inr h)
  · exact Or.inr h
theorem xg_isH0 {post : Int32 → Prop} {x : Int32} (h : x < 0 ∨ nI 4 ≤ x) (p : post 0) : wpX_isHandle post x := by
  by_cases c : x < 0
  · exact br_t c p
  · exact br_f c (br_t (h.elim (fun z => absurd z c) id) p)
theorem xg_isH1 {post : Int32 → Prop} {j : Nat} (h : j < 4) (p : post 1) : wpX_isHandle post (nI j) :=
  br_f (nI_pos (by omega)) (br_f (nI_ge (b := 4) h (by decide)) p)
theorem xg_isL0 {post : Int32 → Prop} {x : Int32} (h : x < 0 ∨ nI 2 ≤ x) (p : post 0) : wpX_isLink post x := by
  by_cases c : x < 0
  · exact br_t c p
  · exact br_f c (br_t (h.elim (fun z => absurd z c) id) p)
theorem xg_isL1 {post : Int32 → Prop} {j : Nat} (h : j < 2) (p : post 1) : wpX_isLink post (nI j) :=
  br_f (nI_pos (by omega)) (br_f (nI_ge (b := 2) h (by decide)) p)
theorem xg_one {post : Int32 → Prop} {q : Nat} (h : q ≤ 12) (p : post (pg_k q)) : wpX_oneIfObject post (nI q) := by
  unfold pg_k at p
  by_cases e : q = 0
  · subst e
    exact br_t rfl p
  · rw [if_neg e] at p
    exact br_f (nI_ne0 (by omega) (by omega)) p
