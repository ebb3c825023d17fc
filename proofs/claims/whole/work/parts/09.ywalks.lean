/-! the reference's own methods, each with a general post -/
theorem yg_isH0 {fr fo : Int32} {yv yt yh ov ot : Nat → Int32} {post : Int32 → Prop} {x : Int32} (h : x < 0 ∨ nI 4 ≤ x) (p : post 0) : wpY_isHandle post (fr, fo, yv, yt, yh, ov, ot) x := by
  by_cases c : x < 0
  · exact br_t c p
  · exact br_f c (br_t (h.elim (fun z => absurd z c) (fun z => Int32.lt_of_lt_of_le (show (3 : Int32) < nI 4 by decide) z)) p)
theorem yg_isH1 {fr fo : Int32} {yv yt yh ov ot : Nat → Int32} {post : Int32 → Prop} {j : Nat} (h : j < 4) (p : post 1) : wpY_isHandle post (fr, fo, yv, yt, yh, ov, ot) (nI j) :=
  br_f (nI_pos (by omega)) (br_f (nI_nlt (a := 3) (b := j) (by omega) (by omega)) p)
theorem yg_lead {fr fo : Int32} {yv yt yh ov ot : Nat → Int32} {post : Int32 → Prop} {q : Nat} (h : q ≤ 12) (p : post (pg_k q)) : wpY_leads post (fr, fo, yv, yt, yh, ov, ot) (pg_m q) := by
  unfold pg_k at p
  by_cases e : q = 0
  · subst e
    exact br_f (by decide) p
  · rw [if_neg e] at p
    exact br_t ((pg_m_ge h).mpr e) p
theorem yg_in1 {fr fo : Int32} {yv yt yh ov ot : Nat → Int32} {post : Int32 → Prop} {z : Int32} {S : Nat → Bool} (hB : pg_B z S) {o : Nat} (ho : o < 12) (s : S (o + 1) = true) (p : post 1) : wpY_in post (fr, fo, yv, yt, yh, ov, ot) z (nI o) :=
  br_t ((pg_B_in hB ho).mpr s) p
theorem yg_in0 {fr fo : Int32} {yv yt yh ov ot : Nat → Int32} {post : Int32 → Prop} {z : Int32} {S : Nat → Bool} (hB : pg_B z S) {o : Nat} (ho : o < 12) (s : ¬ S (o + 1) = true) (p : post 0) : wpY_in post (fr, fo, yv, yt, yh, ov, ot) z (nI o) :=
  br_f (fun e => s ((pg_B_in hB ho).mp e)) p
theorem yg_bit {fr fo : Int32} {yv yt yh ov ot : Nat → Int32} {post : Int32 → Prop} {q : Nat} (h : q ≤ 12) (p : post (pg_bit q)) : wpY_bit post (fr, fo, yv, yt, yh, ov, ot) (pg_m q) := by
  by_cases e : q = 0
  · subst e
    exact br_f (by decide) p
  · rw [pg_bit_s e] at p
    refine br_t ((pg_m_ge h).mpr e) ?_
    rw [pg_m_s e]
    exact p
theorem pg_hx_t {g : Nat → Nat} {S : Nat → Bool} {k : Nat} (s : S (k / 2 + 1) = true) : pg_hx g S (k + 2) = pg_add S (g (k + 2)) := by
  unfold pg_hx
  rw [show (k + 2) / 2 = k / 2 + 1 by omega, if_pos s]
theorem pg_hx_f {g : Nat → Nat} {S : Nat → Bool} {k : Nat} (s : ¬ S (k / 2 + 1) = true) : pg_hx g S (k + 2) = S := by
  unfold pg_hx
  rw [show (k + 2) / 2 = k / 2 + 1 by omega, if_neg s]
theorem yg_43 {fr fo : Int32} {yv yt yh ov ot : Nat → Int32} {g : Nat → Nat} {S : Nat → Bool} (hg : ∀ k, g k ≤ 12) (post : Int32 → Prop) (J5 J15 : Int32 → Int32 → Prop) (x2 x3 x4 z0 : Int32) {k : Nat} (hk : k < 24)
    (hB : pg_B x3 S) (hz : S (k / 2 + 1) = true → z0 = pg_m (g (k + 2))) (H : ∀ z, pg_B z (pg_hx g S (k + 2)) → J15 z (nI (k + 1))) : wY_spread_43 post J5 J15 x2 x3 x4 (nI k) z0 fr fo yv yt yh ov ot := by
  have hd : nI k / 2 = nI (k / 2) := pk_div (a := k) (d := 2) (by omega) (by omega) (by omega)
  have hb := hg (k + 2)
  refine ⟨by decide, ?_⟩
  rw [hd]
  by_cases s : S (k / 2 + 1) = true
  · refine yg_in1 hB (by omega) s (br_f (by decide) ?_)
    rw [hz s]
    by_cases q : g (k + 2) = 0
    · refine br_t ((pg_m_neg hb).mpr q) (nm_r (nI_1 k) (H x3 ?_))
      rw [pg_hx_t s, q, pg_add_0]
      exact hB
    · refine br_f (fun e => q ((pg_m_neg hb).mp e)) (nm_e (nm_r (nI_1 k) (H _ ?_)))
      rw [pg_hx_t s, pg_m_s q, ← pg_bit_s q]
      exact pg_B_add hB hb
  · refine yg_in0 hB (by omega) s (br_t rfl (nm_r (nI_1 k) (H x3 ?_)))
    rw [pg_hx_f s]
    exact hB
theorem yg_15 {fr fo : Int32} {yv yt yh ov ot aa : Nat → Int32} {g : Nat → Nat} {L S : Nat → Bool} (hg : ∀ k, g k ≤ 12) (hT : pg_T aa g L) (hL : pg_cl g L) (hS : pg_le S L) (post : Int32 → Prop) (J5 : Int32 → Int32 → Prop) (x2 x4 : Int32)
    (hx : (x2 = 0 ∧ aa = ot) ∨ (x2 = 1 ∧ aa = yt)) (H : ∀ z, pg_B z (pg_ps g S 24) → J5 z (x4 + 1)) (d : Nat) :
    ∀ (k : Nat) (z : Int32), k + d = 24 → pg_B z (pg_ps g S k) → wY_spread_15 post J5 x2 x4 fr fo yv yt yh ov ot (d + 1) z (nI k) := by
  induction d with
  | zero =>
    intro k z hk hB
    have e : k = 24 := by omega
    subst e
    exact pk_le 24 24 (fun _ => nm_e (H z hB)) (fun h => absurd h (by omega))
  | succ d ih =>
    intro k z hk hB
    refine pk_le 24 k (fun h => absurd h (by omega)) (fun _ => ?_)
    rw [nI_clamp (n := k) (by omega)]
    have hz : pg_ps g S k (k / 2 + 1) = true → aa k = pg_m (g (k + 2)) := fun s => hT k (by omega) (pg_ps_s hL hS k (by omega) _ s)
    rcases hx with ⟨e, e'⟩ | ⟨e, e'⟩
    · rw [e'] at hz
      exact br_t e ⟨pk_in k 24 (by omega), yg_43 hg post J5 _ x2 z x4 (ot k) (by omega) hB hz (fun z' hz' => ih (k + 1) z' (by omega) hz')⟩
    · rw [e'] at hz
      exact br_f (by rw [e]; decide) ⟨pk_in k 24 (by omega), yg_43 hg post J5 _ x2 z x4 (yt k) (by omega) hB hz (fun z' hz' => ih (k + 1) z' (by omega) hz')⟩
theorem yg_5 {fr fo : Int32} {yv yt yh ov ot aa : Nat → Int32} {g : Nat → Nat} {L S : Nat → Bool} (hg : ∀ k, g k ≤ 12) (hT : pg_T aa g L) (hL : pg_cl g L) (hS : pg_le S L) (post : Int32 → Prop) (x2 : Int32)
    (hx : (x2 = 0 ∧ aa = ot) ∨ (x2 = 1 ∧ aa = yt)) (H : ∀ z, pg_B z (pg_sp g S 12) → post z) (d : Nat) :
    ∀ (k : Nat) (z : Int32), k + d = 12 → pg_B z (pg_sp g S k) → wY_spread_5 post x2 fr fo yv yt yh ov ot (d + 1) z (nI k) := by
  induction d with
  | zero =>
    intro k z hk hB
    have e : k = 12 := by omega
    subst e
    exact pk_le 12 12 (fun _ => H z hB) (fun h => absurd h (by omega))
  | succ d ih =>
    intro k z hk hB
    refine pk_le 12 k (fun h => absurd h (by omega)) (fun _ => ⟨25, yg_15 hg hT hL (pg_sp_s hL hS k) post _ x2 (nI k) hx ?_ 24 0 z rfl hB⟩)
    intro z' hz'
    rw [nI_1 k]
    exact ih (k + 1) z' (by omega) hz'
theorem yg_spread {fr fo : Int32} {yv yt yh ov ot aa : Nat → Int32} {g : Nat → Nat} {L S : Nat → Bool} (hg : ∀ k, g k ≤ 12) (hT : pg_T aa g L) (hL : pg_cl g L) (hS : pg_le S L) (post : Int32 → Prop) (x2 : Int32)
    (hx : (x2 = 0 ∧ aa = ot) ∨ (x2 = 1 ∧ aa = yt)) {z : Int32} (hB : pg_B z S) (H : ∀ z, pg_B z (pg_sp g S 12) → post z) : wpY_spread post (fr, fo, yv, yt, yh, ov, ot) z x2 :=
  ⟨13, yg_5 hg hT hL hS post x2 hx H 12 0 z rfl hB⟩
theorem yg_committed {r : Nat} {hd : Nat → Nat} {va : Nat → Int32} {g : Nat → Nat} {L : Nat → Bool} {cr : Nat} {cva : Nat → Int32} {cg : Nat → Nat} {fr fo : Int32} {yv yt yh ov ot : Nat → Int32}
    (I : pg_I r hd g L cr cg) (R : pg_YR r hd va g L cr cva cg fr fo yv yt yh ov ot) (post : Int32 → Prop) (H : ∀ z, pg_B z (pg_C cr cg) → post z) : wpY_committed post (fr, fo, yv, yt, yh, ov, ot) := by
  obtain ⟨h1, h2, h3, h4, h5, h6, h7, h8⟩ := I
  obtain ⟨e1, e2, R3, R4, R5, R6, R7⟩ := R
  subst e2
  unfold wpY_committed
  dsimp only
  refine yg_bit h4 ?_
  exact yg_spread h5 R7 (pg_C_cl h5) pg_C_one _ 0 (Or.inl ⟨rfl, rfl⟩) (pg_B_one h4) (fun z hz => H z hz)
theorem yg_reached {r : Nat} {hd : Nat → Nat} {va : Nat → Int32} {g : Nat → Nat} {L : Nat → Bool} {cr : Nat} {cva : Nat → Int32} {cg : Nat → Nat} {fr fo : Int32} {yv yt yh ov ot : Nat → Int32}
    (I : pg_I r hd g L cr cg) (R : pg_YR r hd va g L cr cva cg fr fo yv yt yh ov ot) (post : Int32 → Prop) (H : ∀ z, pg_B z (pg_C r g) → post z) : wpY_reached post (fr, fo, yv, yt, yh, ov, ot) := by
  obtain ⟨h1, h2, h3, h4, h5, h6, h7, h8⟩ := I
  obtain ⟨e1, e2, R3, R4, R5, R6, R7⟩ := R
  subst e1
  unfold wpY_reached
  dsimp only
  refine yg_bit h1 ?_
  exact yg_spread h3 R4 h6 (pg_one_s h7) _ 1 (Or.inr ⟨rfl, rfl⟩) (pg_B_one h1) (fun z hz => H z hz)
theorem yg_used_l {r : Nat} {hd : Nat → Nat} {va : Nat → Int32} {g : Nat → Nat} {L : Nat → Bool} {cr : Nat} {cva : Nat → Int32} {cg : Nat → Nat} {fr fo : Int32} {yv yt yh ov ot : Nat → Int32}
    (I : pg_I r hd g L cr cg) (R : pg_YR r hd va g L cr cva cg fr fo yv yt yh ov ot) (post : Int32 → Prop) (H : ∀ z, pg_B z (pg_U r hd g cr cg) → post z) (d : Nat) :
    ∀ (i : Nat) (z : Int32), i + d = 4 → pg_B z (pg_hs hd (pg_one r) i) → wY_used_11 post fr fo yv yt yh ov ot (d + 1) z (nI i) := by
  obtain ⟨h1, h2, h3, h4, h5, h6, h7, h8⟩ := id I
  obtain ⟨e1, e2, R3, R4, R5, R6, R7⟩ := id R
  induction d with
  | zero =>
    intro i z hi hB
    have e : i = 4 := by omega
    subst e
    refine pk_le 4 4 (fun _ => ?_) (fun h => absurd h (by omega))
    refine yg_spread h3 R4 h6 (pg_hs_s (pg_one_s h7) 4 h8) _ 1 (Or.inr ⟨rfl, rfl⟩) hB (fun z1 hz1 => ?_)
    exact yg_committed I R _ (fun z2 hz2 => H _ (pg_B_or hz1 hz2))
  | succ d ih =>
    intro i z hi hB
    refine pk_le 4 i (fun h => absurd h (by omega)) (fun _ => ⟨pk_in i 4 (by omega), ?_⟩)
    rw [nI_clamp (n := i) (by omega), R5 i (by omega)]
    exact yg_bit (h2 i) (nm_e (nm_r (nI_1 i) (ih (i + 1) _ (by omega) (pg_B_add hB (h2 i)))))
theorem yg_used {r : Nat} {hd : Nat → Nat} {va : Nat → Int32} {g : Nat → Nat} {L : Nat → Bool} {cr : Nat} {cva : Nat → Int32} {cg : Nat → Nat} {fr fo : Int32} {yv yt yh ov ot : Nat → Int32}
    (I : pg_I r hd g L cr cg) (R : pg_YR r hd va g L cr cva cg fr fo yv yt yh ov ot) (post : Int32 → Prop) (H : ∀ z, pg_B z (pg_U r hd g cr cg) → post z) : wpY_used post (fr, fo, yv, yt, yh, ov, ot) := by
  have hl := yg_used_l I R post H 4 0 (pg_bit r) rfl (pg_B_one I.1)
  have e1 := R.1
  unfold wpY_used
  dsimp only
  rw [e1] at hl ⊢
  exact yg_bit I.1 ⟨5, hl⟩
theorem yg_size_l {fr fo : Int32} {yv yt yh ov ot : Nat → Int32} {S : Nat → Bool} {z : Int32} (hB : pg_B z S) (post : Int32 → Prop) (P : post (nI (pg_cn S 12))) (d : Nat) :
    ∀ i : Nat, i + d = 12 → wY_sizeOf_4 post z fr fo yv yt yh ov ot (d + 1) (nI (pg_cn S i)) (nI i) := by
  induction d with
  | zero =>
    intro i hi
    have e : i = 12 := by omega
    subst e
    exact pk_le 12 12 (fun _ => P) (fun h => absurd h (by omega))
  | succ d ih =>
    intro i hi
    have hn := ih (i + 1) (by omega)
    refine pk_le 12 i (fun h => absurd h (by omega)) (fun _ => ?_)
    by_cases s : S (i + 1) = true
    · exact yg_in1 hB (by omega) s (br_f (by decide) (nm_r (pg_cn_s _ i s) (nm_r (nI_1 i) hn)))
    · rw [pg_cn_z _ i s] at hn
      exact yg_in0 hB (by omega) s (br_t rfl (nm_r (nI_1 i) hn))
theorem yg_size {fr fo : Int32} {yv yt yh ov ot : Nat → Int32} {S : Nat → Bool} {z : Int32} (hB : pg_B z S) (post : Int32 → Prop) (P : post (nI (pg_cn S 12))) : wpY_sizeOf post (fr, fo, yv, yt, yh, ov, ot) z :=
  ⟨13, yg_size_l hB post P 12 0 rfl⟩
