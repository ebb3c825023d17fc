/-! the relation and what is owed -/
def i_Rel (_ : Nat) (u : SX) (v : SY) : Prop :=
  ∃ (r : Nat) (hd : Nat → Nat) (va : Nat → Int32) (g : Nat → Nat) (L : Nat → Bool) (cr : Nat) (cva : Nat → Int32) (cg : Nat → Nat), pg_I r hd g L cr cg ∧
    (match u with | (fr, fc, ah, av, al, ac, acv, acl, _) => pg_XR r hd va g L cr cva cg fr fc ah av al ac acv acl) ∧
    (match v with | (fr, fo, yv, yt, yh, ov, ot) => pg_YR r hd va g L cr cva cg fr fo yv yt yh ov ot)
theorem i_up {k : Nat} {u : SX} {v : SY} (h : i_Rel k u v) : i_Rel (k + 4) u v := h
theorem i_vc0 : wpX_init (fun u => wpY_init (fun v => i_Rel 0 u v)) := by
  unfold wpX_init wpY_init
  refine yg_forget _ (fun h hh => ?_)
  have hn : ∀ p, ¬ pg_C 0 (fun _ => 0) p = true := by
    intro p hp
    have h1 : pg_le (pg_C 0 (fun _ => 0)) pg_no := pg_sp_s (fun k _ _ _ z => absurd rfl z) (pg_one_s (fun z => absurd rfl z)) 12
    exact absurd (h1 p hp) (by simp [pg_no])
  refine ⟨0, fun _ => 0, fun _ => 0, fun _ => 0, pg_no, 0, fun _ => 0, fun _ => 0, ?_, ?_, ?_⟩
  · exact ⟨Nat.zero_le _, fun _ => Nat.zero_le _, fun _ => Nat.zero_le _, Nat.zero_le _, fun _ => Nat.zero_le _, fun _ _ _ _ z => absurd rfl z, fun z => absurd rfl z, fun _ _ z => absurd rfl z⟩
  · exact ⟨rfl, rfl, fun _ _ => rfl, fun _ _ _ _ => rfl, fun _ _ _ _ => rfl, fun p _ _ => by rw [if_neg (hn p)], fun _ _ _ _ => rfl, fun _ _ _ _ => rfl⟩
  · exact ⟨rfl, rfl, fun _ _ _ => rfl, fun i _ z => absurd z (by simp [pg_no]), fun j hj => hh j hj, fun _ _ _ => rfl, fun i _ z => absurd z (hn _)⟩
theorem i_vc_getRoot {k : Nat} {u : SX} {v : SY} (I : i_Rel k u v) (hk : k + 4 ≤ 2048) (v1 : Int32) : wpX_getRoot (fun r u' => wpY_getRoot (fun r' v' => r' = r ∧ i_Rel (k + 4) u' v') v v1) u v1 := by
  obtain ⟨fr, fc, ah, av, al, ac, acv, acl, ar⟩ := u
  obtain ⟨gr, fo, yv, yt, yh, ov, ot⟩ := v
  have I0 := I
  obtain ⟨r, hd, va, g, L, cr, cva, cg, ⟨h1, h2, h3, h4, h5, h6, h7, h8⟩, ⟨e1, e2, R3, R4, R5, R6, R7, R8⟩, ⟨d1, d2, T3, T4, T5, T6, T7⟩⟩ := I0
  unfold wpX_getRoot
  dsimp only
  rcases pg_ix4 v1 with hv | ⟨j, hj, rfl⟩
  · refine xg_isH0 hv (br_t rfl ?_)
    unfold wpY_getRoot
    dsimp only
    exact yg_isH0 hv (br_t rfl ⟨rfl, I⟩)
  · refine xg_isH1 hj (br_f (by decide) ⟨vp_in_nI hj (by decide), nm_e ?_⟩)
    subst e1 d1
    refine xg_one h1 ?_
    unfold wpY_getRoot
    dsimp only
    refine yg_isH1 hj (br_f (by decide) ⟨vp_in_nI hj (by decide), nm_e (yg_lead h1 ?_)⟩)
    rw [nI_clamp (n := j) (by omega)]
    exact ⟨rfl, r, pg_u hd j r, va, g, L, cr, cva, cg, ⟨h1, pg_ub h2 h1, h3, h4, h5, h6, h7, pg_hd_u h8 h7⟩, ⟨rfl, e2, pg_H_u R3 j r, R4, R5, R6, R7, R8⟩, ⟨rfl, d2, T3, T4, pg_K_u T5 j r, T6, T7⟩⟩
theorem i_vc_setRoot {k : Nat} {u : SX} {v : SY} (I : i_Rel k u v) (hk : k + 4 ≤ 2048) (v1 : Int32) : wpX_setRoot (fun r u' => wpY_setRoot (fun r' v' => r' = r ∧ i_Rel (k + 4) u' v') v v1) u v1 := by
  obtain ⟨fr, fc, ah, av, al, ac, acv, acl, ar⟩ := u
  obtain ⟨gr, fo, yv, yt, yh, ov, ot⟩ := v
  have I0 := I
  obtain ⟨r, hd, va, g, L, cr, cva, cg, ⟨h1, h2, h3, h4, h5, h6, h7, h8⟩, ⟨e1, e2, R3, R4, R5, R6, R7, R8⟩, ⟨d1, d2, T3, T4, T5, T6, T7⟩⟩ := I0
  unfold wpX_setRoot
  dsimp only
  rcases pg_ix4 v1 with hv | ⟨j, hj, rfl⟩
  · refine xg_isH0 hv (br_t rfl ?_)
    unfold wpY_setRoot
    dsimp only
    exact yg_isH0 hv (br_t rfl ⟨rfl, I⟩)
  · refine xg_isH1 hj (br_f (by decide) ⟨vp_in_nI hj (by decide), ?_⟩)
    rw [nI_clamp (n := j) (by omega)]
    refine nm_r (R3 j hj) (xg_one (h2 j) ?_)
    unfold wpY_setRoot
    dsimp only
    refine yg_isH1 hj (br_f (by decide) ⟨vp_in_nI hj (by decide), ?_⟩)
    rw [nI_clamp (n := j) (by omega)]
    refine nm_r (T5 j hj) (yg_lead (h2 j) ?_)
    exact ⟨rfl, hd j, hd, va, g, L, cr, cva, cg, ⟨h2 j, h2, h3, h4, h5, h6, h8 j hj, h8⟩, ⟨rfl, e2, R3, R4, R5, R6, R7, R8⟩, ⟨rfl, d2, T3, T4, T5, T6, T7⟩⟩
theorem i_vc_drop {k : Nat} {u : SX} {v : SY} (I : i_Rel k u v) (hk : k + 4 ≤ 2048) (v1 : Int32) : wpX_drop (fun r u' => wpY_drop (fun r' v' => r' = r ∧ i_Rel (k + 4) u' v') v v1) u v1 := by
  obtain ⟨fr, fc, ah, av, al, ac, acv, acl, ar⟩ := u
  obtain ⟨gr, fo, yv, yt, yh, ov, ot⟩ := v
  have I0 := I
  obtain ⟨r, hd, va, g, L, cr, cva, cg, ⟨h1, h2, h3, h4, h5, h6, h7, h8⟩, ⟨e1, e2, R3, R4, R5, R6, R7, R8⟩, ⟨d1, d2, T3, T4, T5, T6, T7⟩⟩ := I0
  unfold wpX_drop
  dsimp only
  rcases pg_ix4 v1 with hv | ⟨j, hj, rfl⟩
  · refine xg_isH0 hv (br_t rfl ?_)
    unfold wpY_drop
    dsimp only
    exact yg_isH0 hv (br_t rfl ⟨rfl, I⟩)
  · refine xg_isH1 hj (br_f (by decide) ⟨vp_in_nI hj (by decide), ?_⟩)
    rw [nI_clamp (n := j) (by omega)]
    refine nm_r (R3 j hj) ⟨vp_in_nI hj (by decide), nm_e (xg_one (h2 j) ?_)⟩
    unfold wpY_drop
    dsimp only
    refine yg_isH1 hj (br_f (by decide) ⟨vp_in_nI hj (by decide), ?_⟩)
    rw [nI_clamp (n := j) (by omega), T5 j hj]
    refine yg_lead (h2 j) ⟨vp_in_nI hj (by decide), nm_e ?_⟩
    exact ⟨rfl, r, pg_u hd j 0, va, g, L, cr, cva, cg, ⟨h1, pg_ub h2 (by omega), h3, h4, h5, h6, h7, pg_hd_u h8 (fun z => absurd rfl z)⟩, ⟨e1, e2, pg_H_u R3 j 0, R4, R5, R6, R7, R8⟩, ⟨d1, d2, T3, T4, pg_K_u T5 j 0, T6, T7⟩⟩
