/-! the pure state against both sides -/
def pg_C (cr : Nat) (cg : Nat → Nat) : Nat → Bool := pg_sp cg (pg_one cr) 12
def pg_XR (r : Nat) (hd : Nat → Nat) (va : Nat → Int32) (g : Nat → Nat) (L : Nat → Bool) (cr : Nat) (cva : Nat → Int32) (cg : Nat → Nat) (fr fc : Int32) (ah av al ac acv acl : Nat → Int32) : Prop :=
  fr = nI r ∧ fc = nI cr ∧ pg_H ah hd ∧ pg_V av va L ∧ pg_G al g L ∧ pg_A ac (pg_C cr cg) ∧ pg_V acv cva (pg_C cr cg) ∧ pg_G acl cg (pg_C cr cg)
def pg_YR (r : Nat) (hd : Nat → Nat) (va : Nat → Int32) (g : Nat → Nat) (L : Nat → Bool) (cr : Nat) (cva : Nat → Int32) (cg : Nat → Nat) (fr fo : Int32) (yv yt yh ov ot : Nat → Int32) : Prop :=
  fr = pg_m r ∧ fo = pg_m cr ∧ pg_W yv va L ∧ pg_T yt g L ∧ pg_K yh hd ∧ pg_W ov cva (pg_C cr cg) ∧ pg_T ot cg (pg_C cr cg)
theorem pg_C_cl {cr : Nat} {cg : Nat → Nat} (h : ∀ k, cg k ≤ 12) : pg_cl cg (pg_C cr cg) := pg_sp_cl h
theorem pg_C_in {cr : Nat} {cg : Nat → Nat} (h : cr ≠ 0) : pg_C cr cg cr = true := pg_sp_m 12 _ (pg_one_in h)
theorem pg_C_one {cr : Nat} {cg : Nat → Nat} : pg_le (pg_one cr) (pg_C cr cg) := pg_sp_m 12
theorem pg_C_le {r : Nat} {hd g : Nat → Nat} {L : Nat → Bool} {cr : Nat} {cg : Nat → Nat} (I : pg_I r hd g L cr cg) : pg_le (pg_C r g) L := by
  obtain ⟨_, _, _, _, _, hL, hr, _⟩ := I
  exact pg_sp_s hL (pg_one_s hr) 12
/-! commit and abort on the pure state -/
theorem pg_I_commit {r : Nat} {hd g : Nat → Nat} {L : Nat → Bool} {cr : Nat} {cg : Nat → Nat} (I : pg_I r hd g L cr cg) : pg_I r hd g L r g := by
  obtain ⟨h1, h2, h3, _, _, h6, h7, h8⟩ := I
  exact ⟨h1, h2, h3, h1, h3, h6, h7, h8⟩
theorem pg_I_abort {r : Nat} {hd g : Nat → Nat} {L : Nat → Bool} {cr : Nat} {cg : Nat → Nat} (I : pg_I r hd g L cr cg) : pg_I cr (fun _ => 0) cg (pg_C cr cg) cr cg := by
  obtain ⟨_, _, _, h4, h5, _, _, _⟩ := I
  exact ⟨h4, fun _ => Nat.zero_le 12, h5, h4, h5, pg_C_cl h5, pg_C_in, fun _ _ z => absurd rfl z⟩
theorem pg_XR_commit {r : Nat} {hd : Nat → Nat} {va : Nat → Int32} {g : Nat → Nat} {L : Nat → Bool} {cr : Nat} {cva : Nat → Int32} {cg : Nat → Nat} {fr fc : Int32} {ah av al ac acv acl : Nat → Int32}
    (I : pg_I r hd g L cr cg) (R : pg_XR r hd va g L cr cva cg fr fc ah av al ac acv acl) {ac' acv' acl' : Nat → Int32}
    (h1 : pg_A ac' (pg_C r g)) (h2 : ∀ o, 1 ≤ o → o ≤ 12 → acv' o = av o) (h3 : ∀ k, k < 26 → acl' k = al k) : pg_XR r hd va g L r va g fr fr ah av al ac' acv' acl' := by
  obtain ⟨e1, _, R3, R4, R5, _, _, _⟩ := R
  exact ⟨e1, e1, R3, R4, R5, h1, pg_V_c (pg_V_le R4 (pg_C_le I)) h2, pg_G_c (pg_G_le R5 (pg_C_le I)) h3⟩
theorem pg_XR_abort {r : Nat} {hd : Nat → Nat} {va : Nat → Int32} {g : Nat → Nat} {L : Nat → Bool} {cr : Nat} {cva : Nat → Int32} {cg : Nat → Nat} {fr fc : Int32} {ah av al ac acv acl : Nat → Int32}
    (R : pg_XR r hd va g L cr cva cg fr fc ah av al ac acv acl) {ah' av' al' : Nat → Int32}
    (h1 : ∀ j, j < 4 → ah' j = 0) (h2 : ∀ o, 1 ≤ o → o ≤ 12 → av' o = acv o) (h3 : ∀ k, k < 26 → al' k = acl k) : pg_XR cr (fun _ => 0) cva cg (pg_C cr cg) cr cva cg fc fc ah' av' al' ac acv acl := by
  obtain ⟨_, e2, _, _, _, R6, R7, R8⟩ := R
  exact ⟨e2, e2, fun j hj => h1 j hj, pg_V_c R7 h2, pg_G_c R8 h3, R6, R7, R8⟩
theorem pg_YR_commit {r : Nat} {hd : Nat → Nat} {va : Nat → Int32} {g : Nat → Nat} {L : Nat → Bool} {cr : Nat} {cva : Nat → Int32} {cg : Nat → Nat} {fr fo : Int32} {yv yt yh ov ot : Nat → Int32}
    (I : pg_I r hd g L cr cg) (R : pg_YR r hd va g L cr cva cg fr fo yv yt yh ov ot) {ov' ot' : Nat → Int32}
    (h2 : ∀ i, i < 12 → pg_C r g (i + 1) = true → ov' i = yv i) (h3 : ∀ i, i < 24 → pg_C r g (i / 2 + 1) = true → ot' i = yt i) : pg_YR r hd va g L r va g fr fr yv yt yh ov' ot' := by
  obtain ⟨e1, _, R3, R4, R5, _, _⟩ := R
  exact ⟨e1, e1, R3, R4, R5, fun i hi c => (h2 i hi c).trans (R3 i hi (pg_C_le I _ c)), fun i hi c => (h3 i hi c).trans (R4 i hi (pg_C_le I _ c))⟩
theorem pg_YR_abort {r : Nat} {hd : Nat → Nat} {va : Nat → Int32} {g : Nat → Nat} {L : Nat → Bool} {cr : Nat} {cva : Nat → Int32} {cg : Nat → Nat} {fr fo : Int32} {yv yt yh ov ot : Nat → Int32}
    (R : pg_YR r hd va g L cr cva cg fr fo yv yt yh ov ot) {yv' yt' yh' : Nat → Int32}
    (h1 : ∀ j, j < 4 → yh' j = -1) (h2 : ∀ i, i < 12 → pg_C cr cg (i + 1) = true → yv' i = ov i) (h3 : ∀ i, i < 24 → pg_C cr cg (i / 2 + 1) = true → yt' i = ot i) : pg_YR cr (fun _ => 0) cva cg (pg_C cr cg) cr cva cg fo fo yv' yt' yh' ov ot := by
  obtain ⟨_, e2, _, _, _, R6, R7⟩ := R
  exact ⟨e2, e2, fun i hi c => (h2 i hi c).trans (R6 i hi c), fun i hi c => (h3 i hi c).trans (R7 i hi c), fun j hj => h1 j hj, R6, R7⟩
/-! the changed objects -/
def pg_F (S C : Nat → Bool) (va cva : Nat → Int32) (g cg : Nat → Nat) : Nat → Bool := fun o =>
  S o && !(C o && (decide (va o = cva o) && (decide (g (2 * o) = cg (2 * o)) && decide (g (2 * o + 1) = cg (2 * o + 1)))))
theorem pg_F_no {S C : Nat → Bool} {va cva : Nat → Int32} {g cg : Nat → Nat} {o : Nat} (h : ¬ S o = true) : ¬ pg_F S C va cva g cg o = true := by
  intro e
  simp only [pg_F, Bool.and_eq_true] at e
  exact h e.1
theorem pg_F_iff {S C : Nat → Bool} {va cva : Nat → Int32} {g cg : Nat → Nat} {o : Nat} (h : S o = true) : pg_F S C va cva g cg o = true ↔ ¬ (C o = true ∧ va o = cva o ∧ g (2 * o) = cg (2 * o) ∧ g (2 * o + 1) = cg (2 * o + 1)) := by
  simp only [pg_F, h, Bool.true_and, Bool.not_eq_true', ← Bool.not_eq_true, Bool.and_eq_true, decide_eq_true_eq]
theorem pg_cn_s (S : Nat → Bool) (n : Nat) (h : S (n + 1) = true) : nI (pg_cn S n) + 1 = nI (pg_cn S (n + 1)) := by
  rw [nI_1]
  show _ = nI (pg_cn S n + (if S (n + 1) = true then 1 else 0))
  rw [if_pos h]
theorem pg_cn_z (S : Nat → Bool) (n : Nat) (h : ¬ S (n + 1) = true) : pg_cn S (n + 1) = pg_cn S n := by
  show pg_cn S n + (if S (n + 1) = true then 1 else 0) = _
  rw [if_neg h]
  rfl
