/-! the reference: changed, commit, abort, make's loop -/
theorem yg_90 {fr fo : Int32} {yv yt yh ov ot : Nat → Int32} {S C : Nat → Bool} {va cva : Nat → Int32} {g cg : Nat → Nat} (post : Int32 → Prop) (J15 : Int32 → Int32 → Prop) {x1 x2 z0 : Int32} {i : Nat} (hi : i < 12)
    (hS : pg_B x1 S) (hC : pg_B x2 C) (hz : S (i + 1) = true → C (i + 1) = true → (¬ z0 = 0 ↔ (va (i + 1) = cva (i + 1) ∧ g (2 * (i + 1)) = cg (2 * (i + 1)) ∧ g (2 * (i + 1) + 1) = cg (2 * (i + 1) + 1))))
    (H : J15 (nI (pg_cn (pg_F S C va cva g cg) (i + 1))) (nI (i + 1))) : wY_changed_90 post J15 x1 x2 (nI (pg_cn (pg_F S C va cva g cg) i)) (nI i) z0 fr fo yv yt yh ov ot := by
  unfold wY_changed_90
  by_cases s : S (i + 1) = true
  · refine yg_in1 hS hi s (br_f (by decide) ?_)
    have hF := pg_F_iff (C := C) (va := va) (cva := cva) (g := g) (cg := cg) s
    by_cases c : C (i + 1) = true
    · refine yg_in1 hC hi c (br_f (by decide) ?_)
      by_cases z : z0 = 0
      · have f : pg_F S C va cva g cg (i + 1) = true := hF.mpr (fun q => (hz s c).mpr q.2 z)
        exact br_t z (nm_r (pg_cn_s _ i f) (nm_r (nI_1 i) H))
      · have f : ¬ pg_F S C va cva g cg (i + 1) = true := fun q => hF.mp q ⟨c, (hz s c).mp z⟩
        rw [pg_cn_z _ i f] at H
        exact br_f z (nm_r (nI_1 i) H)
    · have f : pg_F S C va cva g cg (i + 1) = true := hF.mpr (fun q => c q.1)
      exact yg_in0 hC hi c (br_t rfl (nm_r (pg_cn_s _ i f) (nm_r (nI_1 i) H)))
  · rw [pg_cn_z _ i (pg_F_no s)] at H
    exact yg_in0 hS hi s (br_t rfl (nm_r (nI_1 i) H))
theorem yg_chg_l {r : Nat} {hd : Nat → Nat} {va : Nat → Int32} {g : Nat → Nat} {L : Nat → Bool} {cr : Nat} {cva : Nat → Int32} {cg : Nat → Nat} {fr fo : Int32} {yv yt yh ov ot : Nat → Int32}
    (I : pg_I r hd g L cr cg) (R : pg_YR r hd va g L cr cva cg fr fo yv yt yh ov ot) {S : Nat → Bool} {x1 x2 : Int32} (hB : pg_B x1 S) (hC : pg_B x2 (pg_C cr cg)) (hS : pg_le S L) (post : Int32 → Prop)
    (P : post (nI (pg_cn (pg_F S (pg_C cr cg) va cva g cg) 12))) (d : Nat) : ∀ i : Nat, i + d = 12 → wY_changed_15 post x1 x2 fr fo yv yt yh ov ot (d + 1) (nI (pg_cn (pg_F S (pg_C cr cg) va cva g cg) i)) (nI i) := by
  obtain ⟨_, _, b3, _, b5, _, _, _⟩ := I
  obtain ⟨e1, e2, R3, R4, R5, R6, R7⟩ := R
  induction d with
  | zero =>
    intro i hi
    have e : i = 12 := by omega
    subst e
    exact pk_le 12 12 (fun _ => P) (fun h => absurd h (by omega))
  | succ d ih =>
    intro i hi
    have hn := ih (i + 1) (by omega)
    have fv : S (i + 1) = true → pg_C cr cg (i + 1) = true → (yv i = ov i ↔ va (i + 1) = cva (i + 1)) := by
      intro s c
      rw [R3 i (by omega) (hS _ s), R6 i (by omega) c]
    have d0 : 2 * i / 2 + 1 = i + 1 := by omega
    have d1 : (2 * i + 1) / 2 + 1 = i + 1 := by omega
    have fa : S (i + 1) = true → pg_C cr cg (i + 1) = true → (yt (2 * i) = ot (2 * i) ↔ g (2 * (i + 1)) = cg (2 * (i + 1))) := by
      intro s c
      rw [R4 (2 * i) (by omega) (by rw [d0]; exact hS _ s), R7 (2 * i) (by omega) (by rw [d0]; exact c), pg_m_eq (b3 _) (b5 _)]
      exact Iff.rfl
    have fb : S (i + 1) = true → pg_C cr cg (i + 1) = true → (yt (2 * i + 1) = ot (2 * i + 1) ↔ g (2 * (i + 1) + 1) = cg (2 * (i + 1) + 1)) := by
      intro s c
      rw [R4 (2 * i + 1) (by omega) (by rw [d1]; exact hS _ s), R7 (2 * i + 1) (by omega) (by rw [d1]; exact c), pg_m_eq (b3 _) (b5 _)]
      exact Iff.rfl
    refine pk_le 12 i (fun h => absurd h (by omega)) (fun _ => ⟨pk_in i 12 (by omega), pk_in i 12 (by omega), ?_⟩)
    rw [xg_y2, nI_1 (2 * i), nI_clamp (n := i) (by omega), nI_clamp (n := 2 * i) (by omega), nI_clamp (n := 2 * i + 1) (by omega)]
    by_cases ev : yv i = ov i
    · refine br_t ev ⟨vp_in_nI (by omega) (by omega), vp_in_nI (by omega) (by omega), ?_⟩
      by_cases ea : yt (2 * i) = ot (2 * i)
      · refine br_t ea ⟨vp_in_nI (by omega) (by omega), vp_in_nI (by omega) (by omega), ?_⟩
        by_cases eb : yt (2 * i + 1) = ot (2 * i + 1)
        · exact br_t eb (yg_90 post _ (by omega) hB hC (fun s c => ⟨fun _ => ⟨(fv s c).mp ev, (fa s c).mp ea, (fb s c).mp eb⟩, fun _ => by decide⟩) hn)
        · refine br_f eb ?_
          unfold wY_changed_89
          exact yg_90 post _ (by omega) hB hC (fun s c => ⟨fun q => absurd rfl q, fun q => absurd ((fb s c).mpr q.2.2) eb⟩) hn
      · refine br_f ea ?_
        unfold wY_changed_89
        exact yg_90 post _ (by omega) hB hC (fun s c => ⟨fun q => absurd rfl q, fun q => absurd ((fa s c).mpr q.2.1) ea⟩) hn
    · refine br_f ev ?_
      unfold wY_changed_89
      exact yg_90 post _ (by omega) hB hC (fun s c => ⟨fun q => absurd rfl q, fun q => absurd ((fv s c).mpr q.1) ev⟩) hn
theorem yg_chg {r : Nat} {hd : Nat → Nat} {va : Nat → Int32} {g : Nat → Nat} {L : Nat → Bool} {cr : Nat} {cva : Nat → Int32} {cg : Nat → Nat} {fr fo : Int32} {yv yt yh ov ot : Nat → Int32}
    (I : pg_I r hd g L cr cg) (R : pg_YR r hd va g L cr cva cg fr fo yv yt yh ov ot) (post : Int32 → Prop) (P : post (nI (pg_cn (pg_F (pg_C r g) (pg_C cr cg) va cva g cg) 12))) : wpY_changed post (fr, fo, yv, yt, yh, ov, ot) := by
  unfold wpY_changed
  dsimp only
  refine yg_reached I R _ (fun z hz => ?_)
  refine yg_committed I R _ (fun w hw => ?_)
  exact ⟨13, yg_chg_l I R hz hw (pg_C_le I) post P 12 0 rfl⟩
theorem yg_cm_l {fr fo : Int32} {yv yt yh : Nat → Int32} {S : Nat → Bool} {z n : Int32} (hB : pg_B z S) (post : Int32 → SY → Prop)
    (H : ∀ a c : Nat → Int32, (∀ i, i < 12 → S (i + 1) = true → a i = yv i) → (∀ i, i < 24 → S (i / 2 + 1) = true → c i = yt i) → post n (fr, fo, yv, yt, yh, a, c)) (d : Nat) :
    ∀ (i : Nat) (a c : Nat → Int32), i + d = 12 → (∀ p, p < i → S (p + 1) = true → a p = yv p) → (∀ p, p < 2 * i → S (p / 2 + 1) = true → c p = yt p) → wY_commit_20 post n z fr fo (d + 1) (nI i) yv yt yh a c := by
  induction d with
  | zero =>
    intro i a c hi ha hc
    exact pk_le 12 i (fun _ => H a c (fun p hp => ha p (by omega)) (fun p hp => hc p (by omega))) (fun h => absurd h (by omega))
  | succ d ih =>
    intro i a c hi ha hc
    refine pk_le 12 i (fun h => absurd h (by omega)) (fun _ => ?_)
    by_cases s : S (i + 1) = true
    · refine yg_in1 hB (by omega) s (br_f (by decide) ?_)
      rw [xg_y2, nI_1 (2 * i), nI_clamp (n := i) (by omega), nI_clamp (n := 2 * i) (by omega), nI_clamp (n := 2 * i + 1) (by omega)]
      refine ⟨vp_in_nI (by omega) (by omega), vp_in_nI (by omega) (by omega), nm_e ⟨vp_in_nI (by omega) (by omega), vp_in_nI (by omega) (by omega), nm_e ⟨vp_in_nI (by omega) (by omega), vp_in_nI (by omega) (by omega), nm_e (nm_r (nI_1 i) (ih (i + 1) _ _ (by omega) ?_ ?_))⟩⟩⟩
      · intro p hp sp
        by_cases e : p = i
        · subst e
          exact pk_us
        · rw [pk_un e]
          exact ha p (by omega) sp
      · intro p hp sp
        by_cases e : p = 2 * i + 1
        · subst e
          exact pk_us
        · rw [pk_un e]
          by_cases e2 : p = 2 * i
          · subst e2
            exact pk_us
          · rw [pk_un e2]
            exact hc p (by omega) sp
    · refine yg_in0 hB (by omega) s (br_t rfl (nm_r (nI_1 i) (ih (i + 1) a c (by omega) ?_ ?_)))
      · intro p hp sp
        by_cases e : p = i
        · subst e
          exact absurd sp s
        · exact ha p (by omega) sp
      · intro p hp sp
        by_cases e : p / 2 = i
        · rw [e] at sp
          exact absurd sp s
        · exact hc p (by omega) sp
theorem yg_commit {r : Nat} {hd : Nat → Nat} {va : Nat → Int32} {g : Nat → Nat} {L : Nat → Bool} {cr : Nat} {cva : Nat → Int32} {cg : Nat → Nat} {fr fo : Int32} {yv yt yh ov ot : Nat → Int32}
    (I : pg_I r hd g L cr cg) (R : pg_YR r hd va g L cr cva cg fr fo yv yt yh ov ot) (post : Int32 → SY → Prop)
    (H : ∀ a c : Nat → Int32, pg_YR r hd va g L r va g fr fr yv yt yh a c → post (nI (pg_cn (pg_F (pg_C r g) (pg_C cr cg) va cva g cg) 12)) (fr, fr, yv, yt, yh, a, c)) : wpY_commit post (fr, fo, yv, yt, yh, ov, ot) := by
  unfold wpY_commit
  dsimp only
  refine yg_chg I R _ ?_
  refine yg_reached I R _ (fun z hz => ?_)
  exact ⟨13, yg_cm_l hz post (fun a c ha hc => H a c (pg_YR_commit I R ha hc)) 12 0 ov ot rfl (fun p hp => absurd hp (by omega)) (fun p hp => absurd hp (by omega))⟩
theorem yg_fg_l {fr fo : Int32} {yv yt ov ot : Nat → Int32} (post : SY → Prop) (H : ∀ a : Nat → Int32, (∀ j, j < 4 → a j = -1) → post (fr, fo, yv, yt, a, ov, ot)) (d : Nat) :
    ∀ (i : Nat) (a : Nat → Int32), i + d = 4 → (∀ k, k < i → a k = -1) → wY_forget_2 post fr fo (d + 1) (nI i) yv yt a ov ot := by
  induction d with
  | zero =>
    intro i a hi ha
    exact pk_le 4 i (fun _ => H a (fun p hp => ha p (by omega))) (fun h => absurd h (by omega))
  | succ d ih =>
    intro i a hi ha
    refine pk_le 4 i (fun h => absurd h (by omega)) (fun _ => ⟨pk_in i 4 (by omega), nm_e (nm_r (nI_1 i) (ih (i + 1) _ (by omega) ?_))⟩)
    rw [nI_clamp (by omega)]
    intro p hp
    by_cases e : p = i
    · subst e
      exact pk_us
    · rw [pk_un e]
      exact ha p (by omega)
theorem yg_forget {fr fo : Int32} {yv yt yh ov ot : Nat → Int32} (post : SY → Prop) (H : ∀ a : Nat → Int32, (∀ j, j < 4 → a j = -1) → post (fr, fo, yv, yt, a, ov, ot)) : wpY_forget post (fr, fo, yv, yt, yh, ov, ot) :=
  ⟨5, yg_fg_l post H 4 0 yh rfl (fun k hk => absurd hk (by omega))⟩
theorem yg_ab_l {fr fo : Int32} {yh ov ot : Nat → Int32} {S : Nat → Bool} {z : Int32} (hB : pg_B z S) (post : Int32 → SY → Prop)
    (H : ∀ a c : Nat → Int32, (∀ i, i < 12 → S (i + 1) = true → a i = ov i) → (∀ i, i < 24 → S (i / 2 + 1) = true → c i = ot i) → post (nI (pg_cn S 12)) (fr, fo, a, c, yh, ov, ot)) (d : Nat) :
    ∀ (i : Nat) (a c : Nat → Int32), i + d = 12 → (∀ p, p < i → S (p + 1) = true → a p = ov p) → (∀ p, p < 2 * i → S (p / 2 + 1) = true → c p = ot p) → wY_abort_19 post z fr fo (d + 1) (nI i) a c yh ov ot := by
  induction d with
  | zero =>
    intro i a c hi ha hc
    exact pk_le 12 i (fun _ => yg_size hB _ (H a c (fun p hp => ha p (by omega)) (fun p hp => hc p (by omega)))) (fun h => absurd h (by omega))
  | succ d ih =>
    intro i a c hi ha hc
    refine pk_le 12 i (fun h => absurd h (by omega)) (fun _ => ?_)
    by_cases s : S (i + 1) = true
    · refine yg_in1 hB (by omega) s (br_f (by decide) ?_)
      rw [xg_y2, nI_1 (2 * i), nI_clamp (n := i) (by omega), nI_clamp (n := 2 * i) (by omega), nI_clamp (n := 2 * i + 1) (by omega)]
      refine ⟨vp_in_nI (by omega) (by omega), vp_in_nI (by omega) (by omega), nm_e ⟨vp_in_nI (by omega) (by omega), vp_in_nI (by omega) (by omega), nm_e ⟨vp_in_nI (by omega) (by omega), vp_in_nI (by omega) (by omega), nm_e (nm_r (nI_1 i) (ih (i + 1) _ _ (by omega) ?_ ?_))⟩⟩⟩
      · intro p hp sp
        by_cases e : p = i
        · subst e
          exact pk_us
        · rw [pk_un e]
          exact ha p (by omega) sp
      · intro p hp sp
        by_cases e : p = 2 * i + 1
        · subst e
          exact pk_us
        · rw [pk_un e]
          by_cases e2 : p = 2 * i
          · subst e2
            exact pk_us
          · rw [pk_un e2]
            exact hc p (by omega) sp
    · refine yg_in0 hB (by omega) s (br_t rfl (nm_r (nI_1 i) (ih (i + 1) a c (by omega) ?_ ?_)))
      · intro p hp sp
        by_cases e : p = i
        · subst e
          exact absurd sp s
        · exact ha p (by omega) sp
      · intro p hp sp
        by_cases e : p / 2 = i
        · rw [e] at sp
          exact absurd sp s
        · exact hc p (by omega) sp
theorem yg_abort {r : Nat} {hd : Nat → Nat} {va : Nat → Int32} {g : Nat → Nat} {L : Nat → Bool} {cr : Nat} {cva : Nat → Int32} {cg : Nat → Nat} {fr fo : Int32} {yv yt yh ov ot : Nat → Int32}
    (I : pg_I r hd g L cr cg) (R : pg_YR r hd va g L cr cva cg fr fo yv yt yh ov ot) (post : Int32 → SY → Prop)
    (H : ∀ a c h : Nat → Int32, pg_YR cr (fun _ => 0) cva cg (pg_C cr cg) cr cva cg fo fo a c h ov ot → post (nI (pg_cn (pg_C cr cg) 12)) (fo, fo, a, c, h, ov, ot)) : wpY_abort post (fr, fo, yv, yt, yh, ov, ot) := by
  unfold wpY_abort
  dsimp only
  refine yg_committed I R _ (fun z hz => ?_)
  refine yg_forget _ (fun h hh => ?_)
  exact ⟨13, yg_ab_l hz post (fun a c ha hc => H a c h (pg_YR_abort R hh ha hc)) 12 0 yv yt rfl (fun p hp => absurd hp (by omega)) (fun p hp => absurd hp (by omega))⟩
theorem yg_make_l {fr fo : Int32} {yv yt yh ov ot : Nat → Int32} {U : Nat → Bool} {z x : Int32} (hB : pg_B z U) {h : Nat} (hh : h < 4) (post : Int32 → SY → Prop) (d : Nat) :
    ∀ i : Nat, i + d = 12 → (pg_ff U d (i + 1) = 0 → post (-2) (fr, fo, yv, yt, yh, ov, ot)) →
      (∀ o, pg_ff U d (i + 1) = o + 1 → post (nI h) (fr, fo, upd yv o x, upd (upd yt (2 * o) (pg_m 0)) (2 * o + 1) (pg_m 0), upd yh h (pg_m (o + 1)), ov, ot)) →
      wY_make_18 post (nI h) x z fr fo yv yt yh ov ot (d + 1) (nI i) := by
  induction d with
  | zero =>
    intro i hi h0 h1
    exact pk_le 12 i (fun _ => h0 rfl) (fun h => absurd h (by omega))
  | succ d ih =>
    intro i hi h0 h1
    have hf : pg_ff U (d + 1) (i + 1) = if U (i + 1) = true then pg_ff U d (i + 1 + 1) else i + 1 := rfl
    rw [hf] at h0 h1
    refine pk_le 12 i (fun h => absurd h (by omega)) (fun _ => ?_)
    by_cases s : U (i + 1) = true
    · rw [if_pos s] at h0 h1
      exact yg_in1 hB (by omega) s (br_f (by decide) (nm_r (nI_1 i) (ih (i + 1) (by omega) h0 h1)))
    · rw [if_neg s] at h0 h1
      refine yg_in0 hB (by omega) s (br_t rfl ?_)
      rw [xg_y2, nI_1 (2 * i), nI_clamp (n := i) (by omega), nI_clamp (n := 2 * i) (by omega), nI_clamp (n := 2 * i + 1) (by omega), nI_clamp (n := h) (by omega)]
      exact ⟨vp_in_nI (by omega) (by omega), nm_e ⟨vp_in_nI (by omega) (by omega), nm_e ⟨vp_in_nI (by omega) (by omega), nm_e ⟨vp_in_nI (by omega) (by omega), nm_e (h1 i rfl)⟩⟩⟩⟩
