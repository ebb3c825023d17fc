/-! what is owed: make -/
theorem i_vc_make {k : Nat} {u : SX} {v : SY} (I : i_Rel k u v) (hk : k + 4 ≤ 2048) (v1 : Int32) (v2 : Int32) : wpX_make (fun r u' => wpY_make (fun r' v' => r' = r ∧ i_Rel (k + 4) u' v') v v1 v2) u v1 v2 := by
  obtain ⟨fr, fc, ah, av, al, ac, acv, acl, ar⟩ := u
  obtain ⟨gr, fo, yv, yt, yh, ov, ot⟩ := v
  obtain ⟨r, hd, va, g, L, cr, cva, cg, I1, RX, RY⟩ := id I
  dsimp only at RX RY
  unfold wpX_make
  dsimp only
  rcases pg_ix4 v1 with hv | ⟨j, hj, rfl⟩
  · refine xg_isH0 hv (br_t rfl ?_)
    unfold wpY_make
    dsimp only
    exact yg_isH0 hv (br_t rfl ⟨rfl, I⟩)
  refine xg_isH1 hj (br_f (by decide) ?_)
  refine xg_find I1 RX ar _ (fun b => ?_)
  dsimp only
  have hf := pg_ff_b (pg_U r hd g cr cg) 12 1
  by_cases z : pg_ff (pg_U r hd g cr cg) 12 1 = 0
  · refine br_t (by rw [z]; rfl) ?_
    unfold wpY_make
    dsimp only
    refine yg_isH1 hj (br_f (by decide) (yg_used I1 RY _ (fun y hy => ⟨13, ?_⟩)))
    refine yg_make_l hy hj _ 12 0 rfl (fun _ => ⟨rfl, r, hd, va, g, L, cr, cva, cg, I1, RX, RY⟩) (fun o ho => absurd (z.symm.trans ho) (by omega))
  · obtain ⟨o, eo⟩ : ∃ o, pg_ff (pg_U r hd g cr cg) 12 1 = o + 1 := ⟨pg_ff (pg_U r hd g cr cg) 12 1 - 1, by omega⟩
    have ho := hf z
    rw [eo] at ho
    rw [eo]
    refine br_f (nI_ne0 (by omega) (by omega)) ?_
    rw [nI_clamp (n := o + 1) (by omega)]
    refine ⟨vp_in_nI (by omega) (by decide), nm_e ⟨3, xg_make_l hj (by omega) _ ?_⟩⟩
    unfold wpY_make
    dsimp only
    refine yg_isH1 hj (br_f (by decide) (yg_used I1 RY _ (fun y hy => ⟨13, ?_⟩)))
    refine yg_make_l hy hj _ 12 0 rfl (fun q => absurd (q.symm.trans eo) (by omega)) (fun o' ho' => ?_)
    have e' : o' = o := by
      have := ho'.symm.trans eo
      omega
    subst e'
    obtain ⟨h1, h2, h3, h4, h5, h6, h7, h8⟩ := I1
    obtain ⟨e1, e2, R3, R4, R5, R6, R7, R8⟩ := RX
    obtain ⟨d1, d2, T3, T4, T5, T6, T7⟩ := RY
    refine ⟨rfl, r, pg_u hd j (o' + 1), upd va (o' + 1) v2, pg_u (pg_u g (2 * (o' + 1)) 0) (2 * (o' + 1) + 1) 0, pg_add L (o' + 1), cr, cva, cg, ?_, ?_, ?_⟩
    · exact ⟨h1, pg_ub h2 (by omega), pg_ub (pg_ub h3 (by omega)) (by omega), h4, h5, pg_cl_new h6 (o' + 1), fun q => pg_add_m _ (h7 q), pg_hd_u (fun j hj q => pg_add_m _ (h8 j hj q)) (fun q => pg_add_iff.mpr (Or.inr ⟨q, rfl⟩))⟩
    · exact ⟨e1, e2, pg_H_u R3 j (o' + 1), pg_V_new R4 (o' + 1) v2, pg_G_new R5 (o' + 1), R6, R7, R8⟩
    · exact ⟨d1, d2, pg_W_new T3 o' v2, pg_T_new T4 o', pg_K_u T5 j (o' + 1), T6, T7⟩
