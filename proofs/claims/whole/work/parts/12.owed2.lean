/-! what is owed: value, setValue, same, follow, link -/
theorem pg_Vn {hd : Nat → Nat} {L : Nat → Bool} (h8 : ∀ j, j < 4 → hd j ≠ 0 → L (hd j) = true) {j : Nat} (hj : j < 4) {o : Nat} (e : hd j = o + 1) : L (o + 1) = true := by
  have := h8 j hj (by omega)
  rw [e] at this
  exact this
theorem i_vc_value {k : Nat} {u : SX} {v : SY} (I : i_Rel k u v) (hk : k + 4 ≤ 2048) (v1 : Int32) : wpX_value (fun r => wpY_value (fun r' => r' = r ∧ i_Rel (k + 4) u v) v v1) u v1 := by
  obtain ⟨fr, fc, ah, av, al, ac, acv, acl, ar⟩ := u
  obtain ⟨gr, fo, yv, yt, yh, ov, ot⟩ := v
  have I0 := I
  obtain ⟨r, hd, va, g, L, cr, cva, cg, ⟨h1, h2, h3, h4, h5, h6, h7, h8⟩, ⟨e1, e2, R3, R4, R5, R6, R7, R8⟩, ⟨d1, d2, T3, T4, T5, T6, T7⟩⟩ := I0
  unfold wpX_value
  dsimp only
  rcases pg_ix4 v1 with hv | ⟨j, hj, rfl⟩
  · refine xg_isH0 hv (br_t rfl ?_)
    unfold wpY_value
    dsimp only
    exact yg_isH0 hv (br_t rfl ⟨rfl, I⟩)
  · refine xg_isH1 hj (br_f (by decide) ⟨vp_in_nI hj (by decide), ?_⟩)
    rw [nI_clamp (n := j) (by omega), R3 j hj]
    have hb := h2 j
    by_cases z : hd j = 0
    · refine br_t (by rw [z]; rfl) ?_
      unfold wpY_value
      dsimp only
      refine yg_isH1 hj (br_f (by decide) ⟨vp_in_nI hj (by decide), ?_⟩)
      rw [nI_clamp (n := j) (by omega), T5 j hj]
      exact br_t ((pg_m_neg hb).mpr z) ⟨rfl, I⟩
    · obtain ⟨o, eo⟩ : ∃ o, hd j = o + 1 := ⟨hd j - 1, by omega⟩
      have hl := pg_Vn h8 hj eo
      refine br_f (nI_ne0 (by omega) (by omega)) ⟨vp_in_nI hj (by decide), vp_in_nI (by omega) (by decide), ?_⟩
      rw [nI_clamp (n := hd j) (by omega), eo, R4 (o + 1) (by omega) (by omega) hl]
      unfold wpY_value
      dsimp only
      refine yg_isH1 hj (br_f (by decide) ⟨vp_in_nI hj (by decide), ?_⟩)
      rw [nI_clamp (n := j) (by omega), T5 j hj, eo]
      show (nI o < 0 → _) ∧ (¬ nI o < 0 → _)
      refine br_f (nI_pos (by omega)) ⟨vp_in_nI hj (by decide), vp_in_nI (by omega) (by decide), ?_, I⟩
      show yv (nI o).toNatClampNeg = _
      rw [nI_clamp (n := o) (by omega)]
      exact T3 o (by omega) hl
theorem i_vc_setValue {k : Nat} {u : SX} {v : SY} (I : i_Rel k u v) (hk : k + 4 ≤ 2048) (v1 : Int32) (v2 : Int32) : wpX_setValue (fun r u' => wpY_setValue (fun r' v' => r' = r ∧ i_Rel (k + 4) u' v') v v1 v2) u v1 v2 := by
  obtain ⟨fr, fc, ah, av, al, ac, acv, acl, ar⟩ := u
  obtain ⟨gr, fo, yv, yt, yh, ov, ot⟩ := v
  have I0 := I
  obtain ⟨r, hd, va, g, L, cr, cva, cg, ⟨h1, h2, h3, h4, h5, h6, h7, h8⟩, ⟨e1, e2, R3, R4, R5, R6, R7, R8⟩, ⟨d1, d2, T3, T4, T5, T6, T7⟩⟩ := I0
  unfold wpX_setValue
  dsimp only
  rcases pg_ix4 v1 with hv | ⟨j, hj, rfl⟩
  · refine xg_isH0 hv (br_t rfl ?_)
    unfold wpY_setValue
    dsimp only
    exact yg_isH0 hv (br_t rfl ⟨rfl, I⟩)
  · refine xg_isH1 hj (br_f (by decide) ⟨vp_in_nI hj (by decide), ?_⟩)
    rw [nI_clamp (n := j) (by omega), R3 j hj]
    have hb := h2 j
    by_cases z : hd j = 0
    · refine br_t (by rw [z]; rfl) ?_
      unfold wpY_setValue
      dsimp only
      refine yg_isH1 hj (br_f (by decide) ⟨vp_in_nI hj (by decide), ?_⟩)
      rw [nI_clamp (n := j) (by omega), T5 j hj]
      exact br_f (fun q => (pg_m_ge hb).mp q z) ⟨rfl, I⟩
    · obtain ⟨o, eo⟩ : ∃ o, hd j = o + 1 := ⟨hd j - 1, by omega⟩
      refine br_f (nI_ne0 (by omega) (by omega)) ⟨vp_in_nI hj (by decide), vp_in_nI (by omega) (by decide), nm_e ?_⟩
      rw [nI_clamp (n := hd j) (by omega), eo]
      unfold wpY_setValue
      dsimp only
      refine yg_isH1 hj (br_f (by decide) ⟨vp_in_nI hj (by decide), ?_⟩)
      rw [nI_clamp (n := j) (by omega), T5 j hj, eo]
      show (0 ≤ nI o → _) ∧ (¬ 0 ≤ nI o → _)
      refine br_t (nI_pos' (by omega)) ⟨vp_in_nI hj (by decide), vp_in_nI (by omega) (by decide), nm_r (e' := upd yv o v2) ?_ ?_⟩
      · show upd yv (nI o).toNatClampNeg v2 = _
        rw [nI_clamp (n := o) (by omega)]
      · exact ⟨rfl, r, hd, upd va (o + 1) v2, g, L, cr, cva, cg, ⟨h1, h2, h3, h4, h5, h6, h7, h8⟩, ⟨e1, e2, R3, pg_V_u R4 (o + 1) v2, R5, R6, R7, R8⟩, ⟨d1, d2, pg_W_u T3 o v2, T4, T5, T6, T7⟩⟩
theorem i_vc_same {k : Nat} {u : SX} {v : SY} (I : i_Rel k u v) (hk : k + 4 ≤ 2048) (v1 : Int32) (v2 : Int32) : wpX_same (fun r => wpY_same (fun r' => r' = r ∧ i_Rel (k + 4) u v) v v1 v2) u v1 v2 := by
  obtain ⟨fr, fc, ah, av, al, ac, acv, acl, ar⟩ := u
  obtain ⟨gr, fo, yv, yt, yh, ov, ot⟩ := v
  have I0 := I
  obtain ⟨r, hd, va, g, L, cr, cva, cg, ⟨h1, h2, h3, h4, h5, h6, h7, h8⟩, ⟨e1, e2, R3, R4, R5, R6, R7, R8⟩, ⟨d1, d2, T3, T4, T5, T6, T7⟩⟩ := I0
  unfold wpX_same
  dsimp only
  rcases pg_ix4 v1 with hv | ⟨j, hj, rfl⟩
  · refine xg_isH0 hv (br_t rfl ?_)
    unfold wpY_same
    dsimp only
    exact yg_isH0 hv (br_t rfl ⟨rfl, I⟩)
  · refine xg_isH1 hj (br_f (by decide) ?_)
    rcases pg_ix4 v2 with hv | ⟨i, hi, rfl⟩
    · refine xg_isH0 hv (br_t rfl ?_)
      unfold wpY_same
      dsimp only
      exact yg_isH1 hj (br_f (by decide) (yg_isH0 hv (br_t rfl ⟨rfl, I⟩)))
    · refine xg_isH1 hi (br_f (by decide) ⟨vp_in_nI hj (by decide), ?_⟩)
      rw [nI_clamp (n := j) (by omega), nI_clamp (n := i) (by omega), R3 j hj, R3 i hi]
      have hb := h2 j
      have hc := h2 i
      by_cases z : hd j = 0
      · refine br_t (by rw [z]; rfl) ?_
        unfold wpY_same
        dsimp only
        refine yg_isH1 hj (br_f (by decide) (yg_isH1 hi (br_f (by decide) ⟨vp_in_nI hj (by decide), ?_⟩)))
        rw [nI_clamp (n := j) (by omega), T5 j hj]
        exact br_t ((pg_m_neg hb).mpr z) ⟨rfl, I⟩
      · refine br_f (nI_ne0 (by omega) (by omega)) ⟨vp_in_nI hj (by decide), vp_in_nI hi (by decide), ?_⟩
        by_cases q : hd j = hd i
        · refine br_t (by rw [q]) ?_
          unfold wpY_same
          dsimp only
          refine yg_isH1 hj (br_f (by decide) (yg_isH1 hi (br_f (by decide) ⟨vp_in_nI hj (by decide), ?_⟩)))
          rw [nI_clamp (n := j) (by omega), nI_clamp (n := i) (by omega), T5 j hj, T5 i hi]
          exact br_f (fun y => z ((pg_m_neg hb).mp y)) ⟨vp_in_nI hj (by decide), vp_in_nI hi (by decide), br_t (by rw [q]) ⟨rfl, I⟩⟩
        · refine br_f (fun y => q ((nI_eq (by omega) (by omega)).mp y)) ?_
          unfold wpY_same
          dsimp only
          refine yg_isH1 hj (br_f (by decide) (yg_isH1 hi (br_f (by decide) ⟨vp_in_nI hj (by decide), ?_⟩)))
          rw [nI_clamp (n := j) (by omega), nI_clamp (n := i) (by omega), T5 j hj, T5 i hi]
          exact br_f (fun y => z ((pg_m_neg hb).mp y)) ⟨vp_in_nI hj (by decide), vp_in_nI hi (by decide), br_f (fun y => q ((pg_m_eq hb hc).mp y)) ⟨rfl, I⟩⟩
theorem pg_l2 {x : Int32} (h : x < 0 ∨ nI 2 ≤ x) {A B : Prop} (b : B) : (x < 0 → B) ∧ (¬ x < 0 → ((x ≤ 1 → A) ∧ (¬ x ≤ 1 → B))) := by
  by_cases c : x < 0
  · exact br_t c b
  · refine br_f c (br_f ?_ b)
    intro y
    have q : nI 2 ≤ x := h.elim (fun z => absurd z c) id
    exact absurd (Int32.le_trans q y) (by decide)
theorem pg_l2w {w : Nat} (h : w < 2) {A B : Prop} (a : A) : (nI w < 0 → B) ∧ (¬ nI w < 0 → ((nI w ≤ 1 → A) ∧ (¬ nI w ≤ 1 → B))) :=
  br_f (nI_pos (by omega)) (br_t (nI_le (a := w) (b := 1) (by omega) (by omega)) a)
theorem i_vc_follow {k : Nat} {u : SX} {v : SY} (I : i_Rel k u v) (hk : k + 4 ≤ 2048) (v1 : Int32) (v2 : Int32) (v3 : Int32) : wpX_follow (fun r u' => wpY_follow (fun r' v' => r' = r ∧ i_Rel (k + 4) u' v') v v1 v2 v3) u v1 v2 v3 := by
  obtain ⟨fr, fc, ah, av, al, ac, acv, acl, ar⟩ := u
  obtain ⟨gr, fo, yv, yt, yh, ov, ot⟩ := v
  have I0 := I
  obtain ⟨r, hd, va, g, L, cr, cva, cg, ⟨h1, h2, h3, h4, h5, h6, h7, h8⟩, ⟨e1, e2, R3, R4, R5, R6, R7, R8⟩, ⟨d1, d2, T3, T4, T5, T6, T7⟩⟩ := I0
  unfold wpX_follow
  dsimp only
  rcases pg_ix4 v1 with hv | ⟨j, hj, rfl⟩
  · refine xg_isH0 hv (br_t rfl ?_)
    unfold wpY_follow
    dsimp only
    exact yg_isH0 hv (br_t rfl ⟨rfl, I⟩)
  refine xg_isH1 hj (br_f (by decide) ?_)
  rcases pg_ix4 v2 with hv | ⟨i, hi, rfl⟩
  · refine xg_isH0 hv (br_t rfl ?_)
    unfold wpY_follow
    dsimp only
    exact yg_isH1 hj (br_f (by decide) (yg_isH0 hv (br_t rfl ⟨rfl, I⟩)))
  refine xg_isH1 hi (br_f (by decide) ?_)
  rcases pg_ix2 v3 with hv | ⟨w, hw, rfl⟩
  · refine xg_isL0 hv (br_t rfl ?_)
    unfold wpY_follow
    dsimp only
    exact yg_isH1 hj (br_f (by decide) (yg_isH1 hi (br_f (by decide) (pg_l2 hv ⟨rfl, I⟩))))
  refine xg_isL1 hw (br_f (by decide) ⟨vp_in_nI hi (by decide), ?_⟩)
  rw [nI_clamp (n := i) (by omega)]
  refine nm_r (R3 i hi) ?_
  have hb := h2 i
  by_cases z : hd i = 0
  · refine br_t (by rw [z]; rfl) ?_
    unfold wpY_follow
    dsimp only
    refine yg_isH1 hj (br_f (by decide) (yg_isH1 hi (br_f (by decide) (pg_l2w hw ⟨vp_in_nI hi (by decide), ?_⟩))))
    rw [nI_clamp (n := i) (by omega), T5 i hi]
    exact br_f (fun q => (pg_m_ge hb).mp q z) ⟨rfl, I⟩
  · obtain ⟨o, eo⟩ : ∃ o, hd i = o + 1 := ⟨hd i - 1, by omega⟩
    have hl := pg_Vn h8 hi eo
    have hg := h3 (2 * (o + 1) + w)
    refine br_f (nI_ne0 (by omega) (by omega)) ?_
    rw [eo, xg_x2, nI_add, nI_clamp (n := 2 * (o + 1) + w) (by omega)]
    refine ⟨vp_in_nI (by omega) (by decide), nm_r (R5 (2 * (o + 1) + w) (by omega) (by omega) (by rw [show (2 * (o + 1) + w) / 2 = o + 1 by omega]; exact hl)) ⟨vp_in_nI hj (by decide), nm_e (xg_one hg ?_)⟩⟩
    rw [nI_clamp (n := j) (by omega)]
    unfold wpY_follow
    dsimp only
    refine yg_isH1 hj (br_f (by decide) (yg_isH1 hi (br_f (by decide) (pg_l2w hw ⟨vp_in_nI hi (by decide), ?_⟩))))
    have ht : yt (2 * o + w) = pg_m (g (2 * (o + 1) + w)) := by
      rw [T4 (2 * o + w) (by omega) (by rw [show (2 * o + w) / 2 + 1 = o + 1 by omega]; exact hl), show 2 * o + w + 2 = 2 * (o + 1) + w by omega]
    rw [nI_clamp (n := i) (by omega), T5 i hi, eo, nI_clamp (n := j) (by omega)]
    show (0 ≤ nI o → (vp_in (nI i) 4 ∧ vp_in (2 * nI o + nI w) 24 ∧ vp_in (nI j) 4 ∧ ∀ x : Nat → Int32, x = upd yh j (yt (2 * nI o + nI w).toNatClampNeg) → _)) ∧ (¬ 0 ≤ nI o → _)
    rw [xg_y2, nI_add, nI_clamp (n := 2 * o + w) (by omega), ht]
    refine br_t (nI_pos' (by omega)) ⟨vp_in_nI hi (by decide), vp_in_nI (by omega) (by decide), vp_in_nI hj (by decide), nm_e ⟨vp_in_nI hj (by decide), ?_⟩⟩
    rw [pk_us]
    refine yg_lead hg ⟨rfl, r, pg_u hd j (g (2 * (o + 1) + w)), va, g, L, cr, cva, cg, ⟨h1, pg_ub h2 hg, h3, h4, h5, h6, h7, pg_hd_u h8 ?_⟩, ⟨e1, e2, pg_H_u R3 j _, R4, R5, R6, R7, R8⟩, ⟨d1, d2, T3, T4, pg_K_u T5 j _, T6, T7⟩⟩
    exact h6 (2 * (o + 1) + w) (by omega) (by omega) (by rw [show (2 * (o + 1) + w) / 2 = o + 1 by omega]; exact hl)
theorem i_vc_link {k : Nat} {u : SX} {v : SY} (I : i_Rel k u v) (hk : k + 4 ≤ 2048) (v1 : Int32) (v2 : Int32) (v3 : Int32) : wpX_link (fun r u' => wpY_link (fun r' v' => r' = r ∧ i_Rel (k + 4) u' v') v v1 v2 v3) u v1 v2 v3 := by
  obtain ⟨fr, fc, ah, av, al, ac, acv, acl, ar⟩ := u
  obtain ⟨gr, fo, yv, yt, yh, ov, ot⟩ := v
  have I0 := I
  obtain ⟨r, hd, va, g, L, cr, cva, cg, ⟨h1, h2, h3, h4, h5, h6, h7, h8⟩, ⟨e1, e2, R3, R4, R5, R6, R7, R8⟩, ⟨d1, d2, T3, T4, T5, T6, T7⟩⟩ := I0
  unfold wpX_link
  dsimp only
  rcases pg_ix4 v1 with hv | ⟨j, hj, rfl⟩
  · refine xg_isH0 hv (br_t rfl ?_)
    unfold wpY_link
    dsimp only
    exact yg_isH0 hv (br_t rfl ⟨rfl, I⟩)
  refine xg_isH1 hj (br_f (by decide) ?_)
  rcases pg_ix4 v3 with hv | ⟨i, hi, rfl⟩
  · refine xg_isH0 hv (br_t rfl ?_)
    unfold wpY_link
    dsimp only
    exact yg_isH1 hj (br_f (by decide) (yg_isH0 hv (br_t rfl ⟨rfl, I⟩)))
  refine xg_isH1 hi (br_f (by decide) ?_)
  rcases pg_ix2 v2 with hv | ⟨w, hw, rfl⟩
  · refine xg_isL0 hv (br_t rfl ?_)
    unfold wpY_link
    dsimp only
    exact yg_isH1 hj (br_f (by decide) (yg_isH1 hi (br_f (by decide) (pg_l2 hv ⟨rfl, I⟩))))
  refine xg_isL1 hw (br_f (by decide) ⟨vp_in_nI hj (by decide), ?_⟩)
  rw [nI_clamp (n := j) (by omega)]
  refine nm_r (R3 j hj) ?_
  have hb := h2 j
  have hc := h2 i
  by_cases z : hd j = 0
  · refine br_t (by rw [z]; rfl) ?_
    unfold wpY_link
    dsimp only
    refine yg_isH1 hj (br_f (by decide) (yg_isH1 hi (br_f (by decide) (pg_l2w hw ⟨vp_in_nI hj (by decide), ?_⟩))))
    rw [nI_clamp (n := j) (by omega), T5 j hj]
    exact br_f (fun q => (pg_m_ge hb).mp q z) ⟨rfl, I⟩
  · obtain ⟨o, eo⟩ : ∃ o, hd j = o + 1 := ⟨hd j - 1, by omega⟩
    refine br_f (nI_ne0 (by omega) (by omega)) ⟨vp_in_nI hi (by decide), ?_⟩
    rw [nI_clamp (n := i) (by omega)]
    refine nm_r (R3 i hi) ?_
    rw [eo, xg_x2, nI_add, nI_clamp (n := 2 * (o + 1) + w) (by omega)]
    refine ⟨vp_in_nI (by omega) (by decide), nm_e (xg_one hc ?_)⟩
    unfold wpY_link
    dsimp only
    refine yg_isH1 hj (br_f (by decide) (yg_isH1 hi (br_f (by decide) (pg_l2w hw ⟨vp_in_nI hj (by decide), ?_⟩))))
    rw [nI_clamp (n := j) (by omega), T5 j hj, nI_clamp (n := i) (by omega), T5 i hi, eo]
    show (0 ≤ nI o → (vp_in (nI j) 4 ∧ vp_in (nI i) 4 ∧ vp_in (2 * nI o + nI w) 24 ∧ ∀ x : Nat → Int32, x = upd yt (2 * nI o + nI w).toNatClampNeg (pg_m (hd i)) → _)) ∧ (¬ 0 ≤ nI o → _)
    rw [xg_y2, nI_add, nI_clamp (n := 2 * o + w) (by omega)]
    refine br_t (nI_pos' (by omega)) ⟨vp_in_nI hj (by decide), vp_in_nI hi (by decide), vp_in_nI (by omega) (by decide), nm_e ⟨vp_in_nI hi (by decide), ?_⟩⟩
    have hT := pg_T_u T4 (2 * o + w) (hd i)
    rw [show 2 * o + w + 2 = 2 * (o + 1) + w by omega] at hT
    exact yg_lead hc ⟨rfl, r, hd, va, pg_u g (2 * (o + 1) + w) (hd i), L, cr, cva, cg, ⟨h1, h2, pg_ub h3 hc, h4, h5, pg_cl_u h6 (h8 i hi), h7, h8⟩, ⟨e1, e2, R3, R4, pg_G_u R5 _ _, R6, R7, R8⟩, ⟨d1, d2, T3, hT, T5, T6, T7⟩⟩
