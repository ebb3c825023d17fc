/-! the class's own methods, each with a general post -/
theorem xg_x2 (o : Nat) : nI o * 2 = nI (2 * o) := by
  show nI o * nI 2 = _
  rw [pk_mul, Nat.mul_comm]
theorem xg_y2 (o : Nat) : 2 * nI o = nI (2 * o) := by
  show nI 2 * nI o = _
  rw [pk_mul]
theorem xg_x2s (i : Nat) : nI (i + 1) * 2 = nI (2 * i + 2) := xg_x2 (i + 1)
theorem pg_ps_t {g : Nat → Nat} {S : Nat → Bool} {i : Nat} (s : pg_ps g S (2 * i) (i + 1) = true) : pg_ps g S (2 * (i + 1)) = pg_add (pg_add (pg_ps g S (2 * i)) (g (2 * i + 2))) (g (2 * i + 3)) := by
  show pg_hx g (pg_hx g (pg_ps g S (2 * i)) (2 * i + 2)) (2 * i + 3) = _
  have h1 : pg_hx g (pg_ps g S (2 * i)) (2 * i + 2) = pg_add (pg_ps g S (2 * i)) (g (2 * i + 2)) := by
    unfold pg_hx
    rw [show (2 * i + 2) / 2 = i + 1 by omega, if_pos s]
  rw [h1]
  unfold pg_hx
  rw [show (2 * i + 3) / 2 = i + 1 by omega, if_pos (pg_add_m _ s)]
theorem pg_ps_f {g : Nat → Nat} {S : Nat → Bool} {i : Nat} (s : ¬ pg_ps g S (2 * i) (i + 1) = true) : pg_ps g S (2 * (i + 1)) = pg_ps g S (2 * i) := by
  show pg_hx g (pg_hx g (pg_ps g S (2 * i)) (2 * i + 2)) (2 * i + 3) = _
  have h1 : pg_hx g (pg_ps g S (2 * i)) (2 * i + 2) = pg_ps g S (2 * i) := by
    unfold pg_hx
    rw [show (2 * i + 2) / 2 = i + 1 by omega, if_neg s]
  rw [h1]
  unfold pg_hx
  rw [show (2 * i + 3) / 2 = i + 1 by omega, if_neg s]
theorem xg_clear_l {fr fc : Int32} {ah av al ac acv acl : Nat → Int32} (post : SX → Prop) (H : ∀ b : Nat → Int32, (∀ p, p < 13 → b p = 0) → post (fr, fc, ah, av, al, ac, acv, acl, b)) (d : Nat) :
    ∀ (i : Nat) (b : Nat → Int32), i + d = 13 → (∀ p, p < i → b p = 0) → wX_clearReached_2 post fr fc (d + 1) (nI i) ah av al ac acv acl b := by
  induction d with
  | zero =>
    intro i b hi hb
    exact pk_le 13 i (fun _ => H b (fun p hp => hb p (by omega))) (fun h => absurd h (by omega))
  | succ d ih =>
    intro i b hi hb
    refine pk_le 13 i (fun h => absurd h (by omega)) (fun _ => ⟨pk_in i 13 (by omega), nm_e (nm_r (nI_1 i) (ih (i + 1) _ (by omega) ?_))⟩)
    rw [nI_clamp (by omega), pg_nb0]
    intro p hp
    by_cases e : p = i
    · subst e
      exact pk_us
    · rw [pk_un e]
      exact hb p (by omega)
theorem xg_clear {fr fc : Int32} {ah av al ac acv acl : Nat → Int32} (post : SX → Prop) (b : Nat → Int32) (H : ∀ b : Nat → Int32, (∀ p, p < 13 → b p = 0) → post (fr, fc, ah, av, al, ac, acv, acl, b)) :
    wpX_clearReached post (fr, fc, ah, av, al, ac, acv, acl, b) := ⟨14, xg_clear_l post H 13 0 b rfl (fun p hp => absurd hp (by omega))⟩
theorem xg_in_l {fr fc : Int32} {ah av al ac acv acl : Nat → Int32} {g : Nat → Nat} {L S : Nat → Bool} (hg : ∀ k, g k ≤ 12) (hG : pg_G al g L) (hL : pg_cl g L) (hS : pg_le S L) (post : SX → Prop)
    (J2 : Int32 → (Nat → Int32) → (Nat → Int32) → (Nat → Int32) → (Nat → Int32) → (Nat → Int32) → (Nat → Int32) → (Nat → Int32) → Prop) (x1 : Int32) (H : ∀ b : Nat → Int32, pg_A b (pg_ps g S 24) → J2 (x1 + 1) ah av al ac acv acl b) (d : Nat) :
    ∀ (i : Nat) (b : Nat → Int32), i + d = 12 → pg_A b (pg_ps g S (2 * i)) → wX_spreadReached_10 post J2 x1 fr fc (d + 1) (nI (i + 1)) ah av al ac acv acl b := by
  induction d with
  | zero =>
    intro i b hi hb
    have e : i = 12 := by omega
    subst e
    exact pk_lt 12 13 (fun _ => nm_e (H b hb)) (fun h => absurd h (by omega))
  | succ d ih =>
    intro i b hi hb
    refine pk_lt 12 (i + 1) (fun h => absurd h (by omega)) (fun _ => ⟨pk_in (i + 1) 13 (by omega), ?_⟩)
    rw [nI_clamp (n := i + 1) (by omega)]
    by_cases s : pg_ps g S (2 * i) (i + 1) = true
    · have hl : L (i + 1) = true := pg_ps_s hL hS (2 * i) (by omega) _ s
      have ga : al (2 * i + 2) = nI (g (2 * i + 2)) := hG _ (by omega) (by omega) (by rw [show (2 * i + 2) / 2 = i + 1 by omega]; exact hl)
      have gb : al (2 * i + 2 + 1) = nI (g (2 * i + 3)) := hG (2 * i + 3) (by omega) (by omega) (by rw [show (2 * i + 3) / 2 = i + 1 by omega]; exact hl)
      have ba := hg (2 * i + 2)
      have bb := hg (2 * i + 3)
      refine br_f (by rw [pg_A_1 hb (by omega) (by omega) s]; decide) ?_
      rw [xg_x2s, nI_1 (2 * i + 2), nI_clamp (n := 2 * i + 2) (by omega), nI_clamp (n := 2 * i + 2 + 1) (by omega), ga, gb, nI_clamp (n := g (2 * i + 2)) (by omega), nI_clamp (n := g (2 * i + 3)) (by omega), pg_nb1]
      refine ⟨vp_in_nI (by omega) (by omega), vp_in_nI (by omega) (by omega), nm_e ⟨vp_in_nI (by omega) (by omega), vp_in_nI (by omega) (by omega), nm_e (nm_r (nI_1 (i + 1)) (ih (i + 1) _ (by omega) ?_))⟩⟩
      rw [pg_ps_t s]
      exact pg_A_add (pg_A_add hb _) _
    · refine br_t (pg_A_0 hb (by omega) (by omega) s) (nm_r (nI_1 (i + 1)) (ih (i + 1) b (by omega) ?_))
      rw [pg_ps_f s]
      exact hb
theorem xg_sp_l {fr fc : Int32} {ah av al ac acv acl : Nat → Int32} {g : Nat → Nat} {L S : Nat → Bool} (hg : ∀ k, g k ≤ 12) (hG : pg_G al g L) (hL : pg_cl g L) (hS : pg_le S L) (post : SX → Prop)
    (H : ∀ b : Nat → Int32, pg_A b (pg_sp g S 12) → post (fr, fc, ah, av, al, ac, acv, acl, b)) (d : Nat) :
    ∀ (i : Nat) (b : Nat → Int32), i + d = 12 → pg_A b (pg_sp g S i) → wX_spreadReached_2 post fr fc (d + 1) (nI i) ah av al ac acv acl b := by
  induction d with
  | zero =>
    intro i b hi hb
    have e : i = 12 := by omega
    subst e
    exact pk_le 12 12 (fun _ => H b hb) (fun h => absurd h (by omega))
  | succ d ih =>
    intro i b hi hb
    refine pk_le 12 i (fun h => absurd h (by omega)) (fun _ => ⟨13, xg_in_l hg hG hL (pg_sp_s hL hS i) post _ (nI i) ?_ 12 0 b rfl hb⟩)
    intro b' hb'
    rw [nI_1 i]
    exact ih (i + 1) b' (by omega) hb'
theorem xg_spread {fr fc : Int32} {ah av al ac acv acl : Nat → Int32} {g : Nat → Nat} {L S : Nat → Bool} (hg : ∀ k, g k ≤ 12) (hG : pg_G al g L) (hL : pg_cl g L) (hS : pg_le S L) (post : SX → Prop) {b : Nat → Int32} (hb : pg_A b S)
    (H : ∀ b : Nat → Int32, pg_A b (pg_sp g S 12) → post (fr, fc, ah, av, al, ac, acv, acl, b)) : wpX_spreadReached post (fr, fc, ah, av, al, ac, acv, acl, b) := ⟨13, xg_sp_l hg hG hL hS post H 12 0 b rfl hb⟩
theorem xg_reach {r : Nat} {hd : Nat → Nat} {va : Nat → Int32} {g : Nat → Nat} {L : Nat → Bool} {cr : Nat} {cva : Nat → Int32} {cg : Nat → Nat} {fr fc : Int32} {ah av al ac acv acl : Nat → Int32}
    (I : pg_I r hd g L cr cg) (R : pg_XR r hd va g L cr cva cg fr fc ah av al ac acv acl) (b : Nat → Int32) (post : SX → Prop)
    (H : ∀ b : Nat → Int32, pg_A b (pg_C r g) → post (fr, fc, ah, av, al, ac, acv, acl, b)) : wpX_reachFromRoot post (fr, fc, ah, av, al, ac, acv, acl, b) := by
  obtain ⟨h1, h2, h3, h4, h5, h6, h7, h8⟩ := I
  obtain ⟨e1, e2, R3, R4, R5, R6, R7, R8⟩ := R
  subst e1
  unfold wpX_reachFromRoot
  dsimp only
  refine xg_clear _ b (fun b' hb' => ?_)
  dsimp only
  rw [nI_clamp (n := r) (by omega), pg_nb1]
  refine ⟨vp_in_nI (by omega) (by omega), nm_e ?_⟩
  exact xg_spread h3 R5 h6 (pg_one_s h7) _ (pg_A_add (pg_A_no hb') r) (fun b'' hb'' => H b'' hb'')
