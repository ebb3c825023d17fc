/-! what is owed: commit, abort, crash, reachable -/
theorem i_vc_commit {k : Nat} {u : SX} {v : SY} (I : i_Rel k u v) (hk : k + 4 ≤ 2048) : wpX_commit (fun r u' => wpY_commit (fun r' v' => r' = r ∧ i_Rel (k + 4) u' v') v) u := by
  obtain ⟨fr, fc, ah, av, al, ac, acv, acl, ar⟩ := u
  obtain ⟨gr, fo, yv, yt, yh, ov, ot⟩ := v
  obtain ⟨r, hd, va, g, L, cr, cva, cg, I1, RX, RY⟩ := id I
  dsimp only at RX RY
  unfold wpX_commit
  dsimp only
  refine xg_reach I1 RX ar _ (fun b hb => ?_)
  dsimp only
  refine xg_chg I1 RX hb (pg_C_le I1) _ ?_
  refine xg_cm hb _ (fun a c l ha hc hl => ?_)
  dsimp only
  refine yg_commit I1 RY _ (fun a' c' RY' => ?_)
  exact ⟨rfl, r, hd, va, g, L, r, va, g, pg_I_commit I1, pg_XR_commit I1 RX ha hc hl, RY'⟩
theorem i_vc_abort {k : Nat} {u : SX} {v : SY} (I : i_Rel k u v) (hk : k + 4 ≤ 2048) : wpX_abort (fun r u' => wpY_abort (fun r' v' => r' = r ∧ i_Rel (k + 4) u' v') v) u := by
  obtain ⟨fr, fc, ah, av, al, ac, acv, acl, ar⟩ := u
  obtain ⟨gr, fo, yv, yt, yh, ov, ot⟩ := v
  obtain ⟨r, hd, va, g, L, cr, cva, cg, I1, RX, RY⟩ := id I
  dsimp only at RX RY
  unfold wpX_abort
  dsimp only
  refine xg_rs _ (fun a c l ha hc hl => ?_)
  dsimp only
  have RX' := pg_XR_abort RX ha hc hl
  refine xg_cc RX'.2.2.2.2.2.1 _ ?_
  refine yg_abort I1 RY _ (fun a' c' h' RY' => ?_)
  exact ⟨rfl, cr, fun _ => 0, cva, cg, pg_C cr cg, cr, cva, cg, pg_I_abort I1, RX', RY'⟩
theorem xg_28 {r : Nat} {hd : Nat → Nat} {va : Nat → Int32} {g : Nat → Nat} {L : Nat → Bool} {cr : Nat} {cva : Nat → Int32} {cg : Nat → Nat} {fr fc gr fo : Int32} {ah av al ac acv acl b yv yt yh ov ot : Nat → Int32}
    (I : pg_I r hd g L cr cg) (RX : pg_XR r hd va g L cr cva cg fr fc ah av al ac acv acl) (RY : pg_YR r hd va g L cr cva cg gr fo yv yt yh ov ot) (k : Nat) (x : Int32) (pX : Int32 → SX → Prop)
    (H : ∀ (s : Int32) (u' : SX), (∀ pY : Int32 → SY → Prop, (∀ v', i_Rel k u' v' → pY s v') → wY_crash_23 pY x gr fo yv yt yh ov ot) → pX s u') : wX_crash_28 pX x fr fc ah av al ac acv acl b := by
  unfold wX_crash_28
  refine xg_rs _ (fun a c l ha hc hl => ?_)
  dsimp only
  have RX' := pg_XR_abort RX ha hc hl
  by_cases z : x = 0
  · refine br_t z (H _ _ (fun pY hp => ?_))
    unfold wY_crash_23
    refine yg_abort I RY _ (fun a' c' h' RY' => ?_)
    exact br_t z (hp _ ⟨cr, fun _ => 0, cva, cg, pg_C cr cg, cr, cva, cg, pg_I_abort I, RX', RY'⟩)
  · refine br_f z (H _ _ (fun pY hp => ?_))
    unfold wY_crash_23
    refine yg_abort I RY _ (fun a' c' h' RY' => ?_)
    exact br_f z (hp _ ⟨cr, fun _ => 0, cva, cg, pg_C cr cg, cr, cva, cg, pg_I_abort I, RX', RY'⟩)
theorem i_vc_crash {k : Nat} {u : SX} {v : SY} (I : i_Rel k u v) (hk : k + 4 ≤ 2048) (v1 : Int32) : wpX_crash (fun r u' => wpY_crash (fun r' v' => r' = r ∧ i_Rel (k + 4) u' v') v v1) u v1 := by
  obtain ⟨fr, fc, ah, av, al, ac, acv, acl, ar⟩ := u
  obtain ⟨gr, fo, yv, yt, yh, ov, ot⟩ := v
  obtain ⟨r, hd, va, g, L, cr, cva, cg, I1, RX, RY⟩ := id I
  dsimp only at RX RY
  unfold wpX_crash
  dsimp only
  refine xg_reach I1 RX ar _ (fun b hb => ?_)
  dsimp only
  refine xg_chg I1 RX hb (pg_C_le I1) _ ?_
  by_cases z : v1 ≤ nI (pg_cn (pg_F (pg_C r g) (pg_C cr cg) va cva g cg) 12)
  · refine br_t z ?_
    unfold wX_crash_19
    refine br_t rfl (xg_28 I1 RX RY (k + 4) 0 _ (fun s u' hu => ?_))
    unfold wpY_crash
    dsimp only
    refine yg_chg I1 RY _ (br_t z ?_)
    unfold wY_crash_13
    exact br_t rfl (hu _ (fun v' hv' => ⟨rfl, hv'⟩))
  · refine br_f z ?_
    unfold wX_crash_19
    refine br_f (by decide) (xg_cm hb _ (fun a c l ha hc hl => ?_))
    dsimp only
    unfold wX_crash_28
    refine xg_rs _ (fun a2 c2 l2 ha2 hc2 hl2 => ?_)
    dsimp only
    have RX' := pg_XR_abort (pg_XR_commit I1 RX ha hc hl) ha2 hc2 hl2
    refine br_f (by decide) ?_
    unfold wpY_crash
    dsimp only
    refine yg_chg I1 RY _ (br_f z ?_)
    unfold wY_crash_13
    refine br_f (by decide) (yg_commit I1 RY _ (fun a' c' RY' => ?_))
    dsimp only
    unfold wY_crash_23
    refine yg_abort (pg_I_commit I1) RY' _ (fun a3 c3 h3 RY3 => ?_)
    exact br_f (by decide) ⟨rfl, r, fun _ => 0, va, g, pg_C r g, r, va, g, pg_I_abort (pg_I_commit I1), RX', RY3⟩
theorem i_vc_reachable {k : Nat} {u : SX} {v : SY} (I : i_Rel k u v) (hk : k + 4 ≤ 2048) : wpX_reachable (fun r u' => wpY_reachable (fun r' => r' = r ∧ i_Rel (k + 4) u' v) v) u := by
  obtain ⟨fr, fc, ah, av, al, ac, acv, acl, ar⟩ := u
  obtain ⟨gr, fo, yv, yt, yh, ov, ot⟩ := v
  obtain ⟨r, hd, va, g, L, cr, cva, cg, I1, RX, RY⟩ := id I
  dsimp only at RX RY
  unfold wpX_reachable
  dsimp only
  refine xg_reach I1 RX ar _ (fun b hb => ?_)
  dsimp only
  refine ⟨13, xg_rc_l hb _ ?_ 12 0 rfl⟩
  unfold wpY_reachable
  dsimp only
  refine yg_reached I1 RY _ (fun z hz => ?_)
  exact yg_size hz _ ⟨rfl, r, hd, va, g, L, cr, cva, cg, I1, RX, RY⟩
