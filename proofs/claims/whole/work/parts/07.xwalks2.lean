/-! the class: findUnused, make's loop, counts -/
theorem xg_ff_l {fr fc : Int32} {ah av al ac acv acl b : Nat → Int32} {S C : Nat → Bool} (hA : pg_A b S) (hC : pg_A ac C) (post : Int32 → SX → Prop) (d : Nat) :
    ∀ o : Nat, 1 ≤ o → o + d = 13 → post (nI (pg_ff (fun p => S p || C p) d o)) (fr, fc, ah, av, al, ac, acv, acl, b) → wX_findUnused_45 post fr fc ah av al ac acv acl b (d + 1) (nI o) := by
  induction d with
  | zero =>
    intro o h1 ho h
    exact pk_lt 12 o (fun _ => h) (fun h => absurd h (by omega))
  | succ d ih =>
    intro o h1 ho h
    have hf : pg_ff (fun p => S p || C p) (d + 1) o = if (S o || C o) = true then pg_ff (fun p => S p || C p) d (o + 1) else o := rfl
    rw [hf] at h
    refine pk_lt 12 o (fun h => absurd h (by omega)) (fun _ => ⟨pk_in o 13 (by omega), ?_⟩)
    rw [nI_clamp (n := o) (by omega)]
    by_cases s : S o = true
    · rw [if_pos (by rw [s]; rfl)] at h
      exact br_f (by rw [pg_A_1 hA (by omega) (by omega) s]; decide) (nm_r (nI_1 o) (ih (o + 1) (by omega) (by omega) h))
    · refine br_t (pg_A_0 hA (by omega) (by omega) s) ⟨pk_in o 13 (by omega), ?_⟩
      by_cases c : C o = true
      · rw [if_pos (by rw [c, Bool.or_true])] at h
        exact br_f (by rw [pg_A_1 hC (by omega) (by omega) c]; decide) (nm_r (nI_1 o) (ih (o + 1) (by omega) (by omega) h))
      · rw [if_neg (by rw [Bool.or_eq_true]; exact fun z => z.elim s c)] at h
        exact br_t (pg_A_0 hC (by omega) (by omega) c) h
theorem xg_fh_l {hd : Nat → Nat} {g : Nat → Nat} {L S : Nat → Bool} {fr fc : Int32} {ah av al ac acv acl : Nat → Int32} (hH : pg_H ah hd) (hb : ∀ j, hd j ≤ 12) (hh : ∀ j, j < 4 → hd j ≠ 0 → L (hd j) = true)
    (hg : ∀ k, g k ≤ 12) (hG : pg_G al g L) (hL : pg_cl g L) (hS : pg_le S L) (post : Int32 → SX → Prop) (H : ∀ b : Nat → Int32, pg_A b (pg_sp g (pg_hs hd S 4) 12) → ∃ n, wX_findUnused_45 post fr fc ah av al ac acv acl b n 1) (d : Nat) :
    ∀ (i : Nat) (b : Nat → Int32), i + d = 4 → pg_A b (pg_hs hd S i) → wX_findUnused_16 post fr fc (d + 1) (nI i) ah av al ac acv acl b := by
  induction d with
  | zero =>
    intro i b hi hA
    have e : i = 4 := by omega
    subst e
    exact pk_le 4 4 (fun _ => xg_spread hg hG hL (pg_hs_s hS 4 hh) _ hA (fun b' hb' => H b' hb')) (fun h => absurd h (by omega))
  | succ d ih =>
    intro i b hi hA
    have hbi := hb i
    refine pk_le 4 i (fun h => absurd h (by omega)) (fun _ => ⟨pk_in i 4 (by omega), ?_⟩)
    rw [nI_clamp (n := i) (by omega), hH i (by omega), nI_clamp (n := hd i) (by omega), pg_nb1]
    exact ⟨vp_in_nI (by omega) (by omega), nm_e (nm_r (nI_1 i) (ih (i + 1) _ (by omega) (pg_A_add hA (hd i))))⟩
def pg_U (r : Nat) (hd g : Nat → Nat) (cr : Nat) (cg : Nat → Nat) : Nat → Bool := fun p => pg_sp g (pg_hs hd (pg_one r) 4) 12 p || pg_C cr cg p
theorem xg_find {r : Nat} {hd : Nat → Nat} {va : Nat → Int32} {g : Nat → Nat} {L : Nat → Bool} {cr : Nat} {cva : Nat → Int32} {cg : Nat → Nat} {fr fc : Int32} {ah av al ac acv acl : Nat → Int32}
    (I : pg_I r hd g L cr cg) (R : pg_XR r hd va g L cr cva cg fr fc ah av al ac acv acl) (b : Nat → Int32) (post : Int32 → SX → Prop)
    (H : ∀ b : Nat → Int32, post (nI (pg_ff (pg_U r hd g cr cg) 12 1)) (fr, fc, ah, av, al, ac, acv, acl, b)) : wpX_findUnused post (fr, fc, ah, av, al, ac, acv, acl, b) := by
  obtain ⟨h1, h2, h3, h4, h5, h6, h7, h8⟩ := I
  obtain ⟨e1, e2, R3, R4, R5, R6, R7, R8⟩ := R
  subst e1
  unfold wpX_findUnused
  dsimp only
  refine xg_clear _ b (fun b' hb' => ?_)
  dsimp only
  rw [nI_clamp (n := r) (by omega), pg_nb1]
  refine ⟨vp_in_nI (by omega) (by omega), nm_e ⟨5, ?_⟩⟩
  refine xg_fh_l R3 h2 h8 h3 R5 h6 (pg_one_s h7) post ?_ 4 0 _ rfl (pg_A_add (pg_A_no hb') r)
  intro b'' hb''
  exact ⟨13, xg_ff_l hb'' R6 post 12 1 (by omega) (by omega) (H b'')⟩
theorem xg_make_l {fr fc : Int32} {ah av al ac acv acl b : Nat → Int32} {h o : Nat} (hh : h < 4) (ho : o ≤ 12) (post : Int32 → SX → Prop)
    (P : post (nI h) (fr, fc, upd ah h (nI o), av, upd (upd al (2 * o) (nI 0)) (2 * o + 1) (nI 0), ac, acv, acl, b)) : wX_make_31 post (nI h) (nI o) fr fc 3 0 ah av al ac acv acl b := by
  refine pk_le 2 0 (fun h => absurd h (by omega)) (fun _ => ?_)
  have e0 : nI o * 2 + 0 = nI (2 * o) := by rw [xg_x2, Int32.add_zero]
  rw [e0, nI_clamp (n := 2 * o) (by omega)]
  refine ⟨vp_in_nI (by omega) (by omega), nm_e (nm_r (e' := nI 1) rfl ?_)⟩
  refine pk_le 2 1 (fun h => absurd h (by omega)) (fun _ => ?_)
  have e1 : nI o * 2 + nI 1 = nI (2 * o + 1) := by rw [xg_x2, nI_add]
  rw [e1, nI_clamp (n := 2 * o + 1) (by omega)]
  refine ⟨vp_in_nI (by omega) (by omega), nm_e (nm_r (e' := nI 2) rfl ?_)⟩
  refine pk_le 2 2 (fun _ => ?_) (fun h => absurd h (by omega))
  rw [nI_clamp (n := h) (by omega)]
  exact ⟨vp_in_nI hh (by omega), nm_e P⟩
theorem xg_diff {r : Nat} {hd : Nat → Nat} {va : Nat → Int32} {g : Nat → Nat} {L : Nat → Bool} {cr : Nat} {cva : Nat → Int32} {cg : Nat → Nat} {fr fc : Int32} {ah av al ac acv acl b : Nat → Int32}
    (I : pg_I r hd g L cr cg) (R : pg_XR r hd va g L cr cva cg fr fc ah av al ac acv acl) {S : Nat → Bool} {o : Nat} (h1 : 1 ≤ o) (h12 : o ≤ 12) (hl : L o = true) (hs : S o = true) (post : Int32 → Prop)
    (P : post (if pg_F S (pg_C cr cg) va cva g cg o = true then 1 else 0)) : wpX_differsFromCommitted post (fr, fc, ah, av, al, ac, acv, acl, b) (nI o) := by
  obtain ⟨_, _, b3, _, b5, _, _, _⟩ := I
  obtain ⟨e1, e2, R3, R4, R5, R6, R7, R8⟩ := R
  have hF := pg_F_iff (C := pg_C cr cg) (va := va) (cva := cva) (g := g) (cg := cg) hs
  unfold wpX_differsFromCommitted
  dsimp only
  refine nm_r (xg_x2 o) ⟨pk_in o 13 (by omega), ?_⟩
  rw [nI_1 (2 * o), nI_clamp (n := o) (by omega), nI_clamp (n := 2 * o) (by omega), nI_clamp (n := 2 * o + 1) (by omega)]
  by_cases c : pg_C cr cg o = true
  · refine br_f (by rw [pg_A_1 R6 h1 h12 c]; decide) ⟨pk_in o 13 (by omega), pk_in o 13 (by omega), ?_⟩
    have d0 : 2 * o / 2 = o := by omega
    have d1 : (2 * o + 1) / 2 = o := by omega
    rw [R4 o h1 h12 hl, R7 o h1 h12 c, R5 (2 * o) (by omega) (by omega) (by rw [d0]; exact hl), R8 (2 * o) (by omega) (by omega) (by rw [d0]; exact c), R5 (2 * o + 1) (by omega) (by omega) (by rw [d1]; exact hl), R8 (2 * o + 1) (by omega) (by omega) (by rw [d1]; exact c)]
    have i0 := nI_eq (a := g (2 * o)) (b := cg (2 * o)) (by have := b3 (2 * o); omega) (by have := b5 (2 * o); omega)
    have i1 := nI_eq (a := g (2 * o + 1)) (b := cg (2 * o + 1)) (by have := b3 (2 * o + 1); omega) (by have := b5 (2 * o + 1); omega)
    by_cases ev : va o = cva o
    · refine br_t ev ⟨vp_in_nI (by omega) (by omega), vp_in_nI (by omega) (by omega), ?_⟩
      by_cases ea : g (2 * o) = cg (2 * o)
      · refine br_t (i0.mpr ea) ⟨vp_in_nI (by omega) (by omega), vp_in_nI (by omega) (by omega), ?_⟩
        by_cases eb : g (2 * o + 1) = cg (2 * o + 1)
        · refine br_t (i1.mpr eb) ?_
          rw [if_neg (fun z => hF.mp z ⟨c, ev, ea, eb⟩)] at P
          exact P
        · refine br_f (fun z => eb (i1.mp z)) ?_
          rw [if_pos (hF.mpr (fun z => eb z.2.2.2))] at P
          exact P
      · refine br_f (fun z => ea (i0.mp z)) ?_
        rw [if_pos (hF.mpr (fun z => ea z.2.2.1))] at P
        exact P
    · refine br_f ev ?_
      rw [if_pos (hF.mpr (fun z => ev z.2.1))] at P
      exact P
  · refine br_t (pg_A_0 R6 h1 h12 c) ?_
    rw [if_pos (hF.mpr (fun z => c z.1))] at P
    exact P
theorem xg_chg_l {r : Nat} {hd : Nat → Nat} {va : Nat → Int32} {g : Nat → Nat} {L : Nat → Bool} {cr : Nat} {cva : Nat → Int32} {cg : Nat → Nat} {fr fc : Int32} {ah av al ac acv acl b : Nat → Int32}
    (I : pg_I r hd g L cr cg) (R : pg_XR r hd va g L cr cva cg fr fc ah av al ac acv acl) {S : Nat → Bool} (hA : pg_A b S) (hS : pg_le S L) (post : Int32 → Prop)
    (P : post (nI (pg_cn (pg_F S (pg_C cr cg) va cva g cg) 12))) (d : Nat) : ∀ i : Nat, i + d = 12 → wX_countChanged_4 post fr fc ah av al ac acv acl b (d + 1) (nI (pg_cn (pg_F S (pg_C cr cg) va cva g cg) i)) (nI (i + 1)) := by
  induction d with
  | zero =>
    intro i hi
    have e : i = 12 := by omega
    subst e
    exact pk_lt 12 13 (fun _ => P) (fun h => absurd h (by omega))
  | succ d ih =>
    intro i hi
    have hn := ih (i + 1) (by omega)
    refine pk_lt 12 (i + 1) (fun h => absurd h (by omega)) (fun _ => ⟨pk_in (i + 1) 13 (by omega), ?_⟩)
    rw [nI_clamp (n := i + 1) (by omega)]
    by_cases s : S (i + 1) = true
    · refine br_f (by rw [pg_A_1 hA (by omega) (by omega) s]; decide) (xg_diff I R (by omega) (by omega) (hS _ s) s _ ?_)
      by_cases f : pg_F S (pg_C cr cg) va cva g cg (i + 1) = true
      · rw [if_pos f]
        exact br_f (by decide) (nm_r (pg_cn_s _ i f) (nm_r (nI_1 (i + 1)) hn))
      · rw [if_neg f]
        rw [pg_cn_z _ i f] at hn
        exact br_t rfl (nm_r (nI_1 (i + 1)) hn)
    · rw [pg_cn_z _ i (pg_F_no s)] at hn
      exact br_t (pg_A_0 hA (by omega) (by omega) s) (nm_r (nI_1 (i + 1)) hn)
theorem xg_chg {r : Nat} {hd : Nat → Nat} {va : Nat → Int32} {g : Nat → Nat} {L : Nat → Bool} {cr : Nat} {cva : Nat → Int32} {cg : Nat → Nat} {fr fc : Int32} {ah av al ac acv acl b : Nat → Int32}
    (I : pg_I r hd g L cr cg) (R : pg_XR r hd va g L cr cva cg fr fc ah av al ac acv acl) {S : Nat → Bool} (hA : pg_A b S) (hS : pg_le S L) (post : Int32 → Prop)
    (P : post (nI (pg_cn (pg_F S (pg_C cr cg) va cva g cg) 12))) : wpX_countChanged post (fr, fc, ah, av, al, ac, acv, acl, b) := ⟨13, xg_chg_l I R hA hS post P 12 0 rfl⟩
theorem xg_cc_l {fr fc : Int32} {ah av al ac acv acl b : Nat → Int32} {S : Nat → Bool} (hA : pg_A ac S) (post : Int32 → Prop)
    (P : post (nI (pg_cn S 12))) (d : Nat) : ∀ i : Nat, i + d = 12 → wX_countCommitted_4 post fr fc ah av al ac acv acl b (d + 1) (nI (pg_cn S i)) (nI (i + 1)) := by
  induction d with
  | zero =>
    intro i hi
    have e : i = 12 := by omega
    subst e
    exact pk_lt 12 13 (fun _ => P) (fun h => absurd h (by omega))
  | succ d ih =>
    intro i hi
    have hn := ih (i + 1) (by omega)
    refine pk_lt 12 (i + 1) (fun h => absurd h (by omega)) (fun _ => ⟨pk_in (i + 1) 13 (by omega), ?_⟩)
    rw [nI_clamp (n := i + 1) (by omega)]
    by_cases s : S (i + 1) = true
    · exact br_f (by rw [pg_A_1 hA (by omega) (by omega) s]; decide) (nm_r (pg_cn_s _ i s) (nm_r (nI_1 (i + 1)) hn))
    · rw [pg_cn_z _ i s] at hn
      exact br_t (pg_A_0 hA (by omega) (by omega) s) (nm_r (nI_1 (i + 1)) hn)
theorem xg_cc {fr fc : Int32} {ah av al ac acv acl b : Nat → Int32} {S : Nat → Bool} (hA : pg_A ac S) (post : Int32 → Prop)
    (P : post (nI (pg_cn S 12))) : wpX_countCommitted post (fr, fc, ah, av, al, ac, acv, acl, b) := ⟨13, xg_cc_l hA post P 12 0 rfl⟩
theorem xg_rc_l {fr fc : Int32} {ah av al ac acv acl b : Nat → Int32} {S : Nat → Bool} (hA : pg_A b S) (post : Int32 → SX → Prop)
    (P : post (nI (pg_cn S 12)) (fr, fc, ah, av, al, ac, acv, acl, b)) (d : Nat) : ∀ i : Nat, i + d = 12 → wX_reachable_8 post fr fc ah av al ac acv acl b (d + 1) (nI (pg_cn S i)) (nI (i + 1)) := by
  induction d with
  | zero =>
    intro i hi
    have e : i = 12 := by omega
    subst e
    exact pk_lt 12 13 (fun _ => P) (fun h => absurd h (by omega))
  | succ d ih =>
    intro i hi
    have hn := ih (i + 1) (by omega)
    refine pk_lt 12 (i + 1) (fun h => absurd h (by omega)) (fun _ => ⟨pk_in (i + 1) 13 (by omega), ?_⟩)
    rw [nI_clamp (n := i + 1) (by omega)]
    by_cases s : S (i + 1) = true
    · exact br_f (by rw [pg_A_1 hA (by omega) (by omega) s]; decide) (nm_r (pg_cn_s _ i s) (nm_r (nI_1 (i + 1)) hn))
    · rw [pg_cn_z _ i s] at hn
      exact br_t (pg_A_0 hA (by omega) (by omega) s) (nm_r (nI_1 (i + 1)) hn)
