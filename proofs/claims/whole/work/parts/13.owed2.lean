/-! what is owed: add, drop, move -/
theorem fw_rb {x : Int32} {L : Nat} {A B : Prop} (hL : L + 1 < 2 ^ 31) (h : x < 0 ∨ nI (L + 1) ≤ x) (a : A) : (x < 0 → A) ∧ (¬ x < 0 → ((nI L < x → A) ∧ (¬ nI L < x → B))) := by
  rcases h with h | h
  · exact br_t h a
  · obtain ⟨p, q, r⟩ := fw_big h (b := L) (by omega) hL
    exact br_f r (br_t q a)
theorem fw_rg {n L : Nat} {A B : Prop} (hL : L < 2 ^ 31) (h : n ≤ L) (b : B) : (nI n < 0 → A) ∧ (¬ nI n < 0 → ((nI L < nI n → A) ∧ (¬ nI L < nI n → B))) :=
  br_f (nI_pos (by omega)) (br_f (nI_nlt h hL) b)
theorem fw_sb {x : Int32} {L : Nat} {A B : Prop} (hL : L + 1 < 2 ^ 31) (h : x < 0 ∨ nI (L + 1) ≤ x) (a : A) : (x < 0 → A) ∧ (¬ x < 0 → ((x ≤ nI L → B) ∧ (¬ x ≤ nI L → A))) := by
  rcases h with h | h
  · exact br_t h a
  · obtain ⟨p, q, r⟩ := fw_big h (b := L) (by omega) hL
    exact br_f r (br_f p a)
theorem fw_sg {n L : Nat} {A B : Prop} (hL : L < 2 ^ 31) (h : n ≤ L) (b : B) : (nI n < 0 → A) ∧ (¬ nI n < 0 → ((nI n ≤ nI L → B) ∧ (¬ nI n ≤ nI L → A))) :=
  br_f (nI_pos (by omega)) (br_t (nI_le h hL) b)
theorem fb_addS {ls rm ra rc : Nat → Int32} {t0 s m a c : Nat} {T : fb_Tab} (R : fb_rep ls rm ra rc t0 T) (hs : s < 5) (hn : T.1 s < 6) (hm : m < 4096) (ha : a < 6) (hc : c < 4096) :
    fb_rep (upd ls (5 * t0 + s) (nI (T.1 s + 1))) (upd rm (6 * (5 * t0 + s) + T.1 s) (nI m)) (upd ra (6 * (5 * t0 + s) + T.1 s) (nI a)) (upd rc (6 * (5 * t0 + s) + T.1 s) (nI c)) t0
      (fb_tset T s (T.1 s + 1) (fun i => if i = T.1 s then m else T.2.1 s i) (fun i => if i = T.1 s then a else T.2.2.1 s i) (fun i => if i = T.1 s then c else T.2.2.2 s i)) ∧
    ∀ t T', t ≠ t0 → fb_rep ls rm ra rc t T' → fb_rep (upd ls (5 * t0 + s) (nI (T.1 s + 1))) (upd rm (6 * (5 * t0 + s) + T.1 s) (nI m)) (upd ra (6 * (5 * t0 + s) + T.1 s) (nI a)) (upd rc (6 * (5 * t0 + s) + T.1 s) (nI c)) t T' := by
  obtain ⟨h6, hl, hrm, hra, hrc⟩ := R s hs
  exact fb_side R hs (by omega) pk_us (fun q hq => pk_un hq) (fb_row_add hrm hm) (fb_row_add hra ha) (fb_row_add hrc hc)
    (fun q hq => pk_un (by omega)) (fun q hq => pk_un (by omega)) (fun q hq => pk_un (by omega))
theorem i_vc_add {k : Nat} {u : SX} {v : SY} (I : i_Rel k u v) (hk : k + 5 ≤ 2560) (v1 : Int32) (v2 : Int32) (v3 : Int32) (v4 : Int32) : wpX_add (fun r u' => wpY_add (fun r' v' => r' = r ∧ i_Rel (k + 5) u' v') v v1 v2 v3 v4) u v1 v2 v3 v4 := by
  obtain ⟨pe, st, pl, hd, tr, ls, rm, ra, rc, tX, ls', rm', ra', rc', tY, ax, sg, tt, τ, oP, oH, sn, rfl, rfl, hpe, hax, hsg, hpk, htab⟩ := I
  have I' := fb_mk (k := k + 5) (oP := oP) (oH := oH) (sn := sn) hpe hax hsg hpk htab
  obtain ⟨RX, RY⟩ := fb_0R hsg htab
  unfold wpX_add
  rcases fw_ix v1 (n := 5) (by omega) with h1 | ⟨s, hs, rfl⟩
  · refine fx_out (L := 5) h1 (br_t rfl ?_)
    unfold wpY_add
    exact fw_rb (L := 4) (by omega) h1 ⟨rfl, I'⟩
  refine fx_in (L := 5) hs (by omega) (br_f (by decide) ?_)
  rcases fw_ix v2 (n := 4096) (by omega) with h2 | ⟨m, hm, rfl⟩
  · refine fx_out (L := 4096) h2 (br_t rfl ?_)
    unfold wpY_add
    exact fw_rg (L := 4) (by omega) (by omega) (fw_rb (L := 4095) (by omega) h2 ⟨rfl, I'⟩)
  refine fx_in (L := 4096) hm (by omega) (br_f (by decide) ?_)
  rcases fw_ix v3 (n := 6) (by omega) with h3 | ⟨a, ha, rfl⟩
  · refine fx_out (L := 6) h3 (br_t rfl ?_)
    unfold wpY_add
    exact fw_rg (L := 4) (by omega) (by omega) (fw_rg (L := 4095) (by omega) (by omega) (fw_rb (L := 5) (by omega) h3 ⟨rfl, I'⟩))
  refine fx_in (L := 6) ha (by omega) (br_f (by decide) ?_)
  rcases fw_ix v4 (n := 4096) (by omega) with h4 | ⟨c, hc, rfl⟩
  · refine fx_out (L := 4096) h4 (br_t rfl ?_)
    unfold wpY_add
    exact fw_rg (L := 4) (by omega) (by omega) (fw_rg (L := 4095) (by omega) (by omega) (fw_rg (L := 5) (by omega) (by omega) (fw_sb (L := 4095) (by omega) h4 ⟨rfl, I'⟩)))
  obtain ⟨h6, hX, _⟩ := RX s hs
  obtain ⟨_, hY⟩ := fb_rep0 RY hs
  have hvX : vp_in (nI (5 * 3 + s)) 20 := vp_in_nI (by omega) (by omega)
  have hcX : (nI (5 * 3 + s)).toNatClampNeg = 5 * 3 + s := nI_clamp (by omega)
  have hvY : vp_in (nI s) 20 := vp_in_nI (by omega) (by omega)
  have hcY : (nI s).toNatClampNeg = s := nI_clamp (by omega)
  refine fx_in (L := 4096) hc (by omega) (br_f (by decide) (fx_lo 3 s rfl rfl ⟨hvX, nm_r (e' := nI ((τ 3).1 s)) (by rw [hcX]; exact hX) ?_⟩))
  refine pk_lt ((τ 3).1 s) 6 (fun hn => ?_) (fun hn => ?_)
  · refine fx_put (6 * (5 * 3 + s) + (τ 3).1 s) ?_ (by omega) ⟨hvX, nm_r (e' := upd ls (5 * 3 + s) (nI ((τ 3).1 s + 1))) (by rw [hcX, nI_1]) ?_⟩
    · rw [show (6 : Int32) = nI 6 from rfl, pk_mul, nI_add]
      exact congrArg nI (by omega)
    · unfold wpY_add
      refine fw_rg (L := 4) (by omega) (by omega) (fw_rg (L := 4095) (by omega) (by omega) (fw_rg (L := 5) (by omega) (by omega) (fw_sg (L := 4095) (by omega) (by omega) ⟨hvY, ?_⟩)))
      rw [hcY, hY]
      refine br_f (fun z => absurd ((nI_eq (b := 6) (by omega) (by omega)).mp z) (by omega)) ⟨hvY, fy_put (6 * (5 * 0 + s) + (τ 3).1 s) ?_ (by omega) ⟨hvY, hvY, nm_r (e' := upd ls' (5 * 0 + s) (nI ((τ 3).1 s + 1))) ?_ ⟨hvY, ?_, ?_⟩⟩⟩
      · rw [show (6 : Int32) = nI 6 from rfl, pk_mul, nI_add]
        exact congrArg nI (by omega)
      · rw [hY, nI_1, show 5 * 0 + s = s by omega]
      · rw [show 5 * 0 + s = s by omega, pk_us, nI_pred]
      · exact fb_mk hpe hax hsg hpk (fb_tabs_st htab hsg hax hpk (fb_addS RX hs hn hm ha hc) (fb_addS RY hs hn hm ha hc))
  · unfold wpY_add
    refine fw_rg (L := 4) (by omega) (by omega) (fw_rg (L := 4095) (by omega) (by omega) (fw_rg (L := 5) (by omega) (by omega) (fw_sg (L := 4095) (by omega) (by omega) ⟨hvY, ?_⟩)))
    rw [hcY, hY]
    exact br_t (by rw [show (τ 3).1 s = 6 by omega]; rfl) ⟨rfl, I'⟩
theorem fb_drX {ls rm ra rc : Nat → Int32} {t0 s i M : Nat} {T : fb_Tab} (R : fb_rep ls rm ra rc t0 T) (hs : s < 5) (hi : i < T.1 s) (hM : M + 1 = T.1 s) (B : Nat) (hB : B = 6 * (5 * t0 + s)) :
    fb_rep (upd ls (5 * t0 + s) (nI M)) (upd (fb_dn (B + M) (B + i) (fb_up (B + i) (B + M) rm)) (B + M) (rm (B + i))) (upd (fb_dn (B + M) (B + i) (fb_up (B + i) (B + M) ra)) (B + M) (ra (B + i))) (upd (fb_dn (B + M) (B + i) (fb_up (B + i) (B + M) rc)) (B + M) (rc (B + i))) t0
      (fb_tset T s M (fun k => T.2.1 s (fb_dpi i k)) (fun k => T.2.2.1 s (fb_dpi i k)) (fun k => T.2.2.2 s (fb_dpi i k))) ∧
    ∀ t T', t ≠ t0 → fb_rep ls rm ra rc t T' → fb_rep (upd ls (5 * t0 + s) (nI M)) (upd (fb_dn (B + M) (B + i) (fb_up (B + i) (B + M) rm)) (B + M) (rm (B + i))) (upd (fb_dn (B + M) (B + i) (fb_up (B + i) (B + M) ra)) (B + M) (ra (B + i))) (upd (fb_dn (B + M) (B + i) (fb_up (B + i) (B + M) rc)) (B + M) (rc (B + i))) t T' := by
  subst hB
  obtain ⟨h6, hl, hrm, hra, hrc⟩ := R s hs
  have hx : ∀ k, k < M → fb_dpi i k < T.1 s := fun k hk => fb_dpi_lt (by omega)
  exact fb_side R hs (by omega) pk_us (fun q hq => pk_un hq)
    (fb_row_ix hrm hx (fun k hk => fb_cellD rm (n := M + 1) (by omega) (by omega)))
    (fb_row_ix hra hx (fun k hk => fb_cellD ra (n := M + 1) (by omega) (by omega)))
    (fb_row_ix hrc hx (fun k hk => fb_cellD rc (n := M + 1) (by omega) (by omega)))
    (fun q hq => fb_frX rm (by omega) (by omega) hq _) (fun q hq => fb_frX ra (by omega) (by omega) hq _) (fun q hq => fb_frX rc (by omega) (by omega) hq _)
theorem fb_drY {ls rm ra rc : Nat → Int32} {t0 s i M : Nat} {T : fb_Tab} (R : fb_rep ls rm ra rc t0 T) (hs : s < 5) (hi : i < T.1 s) (hM : M + 1 = T.1 s) (B C : Nat) (hB : B = 6 * (5 * t0 + s)) (hC : C = 5 * t0 + s) :
    fb_rep (upd ls C (nI M)) (fb_up (B + i) (B + M) rm) (fb_up (B + i) (B + M) ra) (fb_up (B + i) (B + M) rc) t0
      (fb_tset T s M (fun k => T.2.1 s (fb_dpi i k)) (fun k => T.2.2.1 s (fb_dpi i k)) (fun k => T.2.2.2 s (fb_dpi i k))) ∧
    ∀ t T', t ≠ t0 → fb_rep ls rm ra rc t T' → fb_rep (upd ls C (nI M)) (fb_up (B + i) (B + M) rm) (fb_up (B + i) (B + M) ra) (fb_up (B + i) (B + M) rc) t T' := by
  subst hB hC
  obtain ⟨h6, hl, hrm, hra, hrc⟩ := R s hs
  have hx : ∀ k, k < M → fb_dpi i k < T.1 s := fun k hk => fb_dpi_lt (by omega)
  exact fb_side R hs (by omega) pk_us (fun q hq => pk_un hq)
    (fb_row_ix hrm hx (fun k hk => fb_cellU rm (n := M + 1) (by omega) (by omega)))
    (fb_row_ix hra hx (fun k hk => fb_cellU ra (n := M + 1) (by omega) (by omega)))
    (fb_row_ix hrc hx (fun k hk => fb_cellU rc (n := M + 1) (by omega) (by omega)))
    (fun q hq => fb_frU rm (by omega) hq) (fun q hq => fb_frU ra (by omega) hq) (fun q hq => fb_frU rc (by omega) hq)
theorem i_vc_drop {k : Nat} {u : SX} {v : SY} (I : i_Rel k u v) (hk : k + 5 ≤ 2560) (v1 : Int32) (v2 : Int32) : wpX_drop (fun r u' => wpY_drop (fun r' v' => r' = r ∧ i_Rel (k + 5) u' v') v v1 v2) u v1 v2 := by
  obtain ⟨pe, st, pl, hd, tr, ls, rm, ra, rc, tX, ls', rm', ra', rc', tY, ax, sg, tt, τ, oP, oH, sn, rfl, rfl, hpe, hax, hsg, hpk, htab⟩ := I
  have I' := fb_mk (k := k + 5) (oP := oP) (oH := oH) (sn := sn) hpe hax hsg hpk htab
  obtain ⟨RX, RY⟩ := fb_0R hsg htab
  rcases fw_ix v1 (n := 5) (by omega) with h1 | ⟨s, hs, rfl⟩
  · unfold wpX_drop
    refine fx_sr_s h1 (br_t rfl ?_)
    unfold wpY_drop
    exact fy_nr_s h1 (br_f (by decide) ⟨rfl, I'⟩)
  obtain ⟨h6, hX, _⟩ := RX s hs
  rcases fw_ix v2 (n := (τ 3).1 s) (by omega) with h2 | ⟨i, hi, rfl⟩
  · unfold wpX_drop
    refine fx_sr_i RX hs h2 (br_t rfl ?_)
    unfold wpY_drop
    exact fy_nr_i RY hs h2 (br_f (by decide) ⟨rfl, I'⟩)
  obtain ⟨M, hM⟩ : ∃ M, M + 1 = (τ 3).1 s := ⟨(τ 3).1 s - 1, by omega⟩
  have hvX : vp_in (nI (5 * 3 + s)) 20 := vp_in_nI (by omega) (by omega)
  have hcX : (nI (5 * 3 + s)).toNatClampNeg = 5 * 3 + s := nI_clamp (by omega)
  have eM : ls (nI (5 * 3 + s)).toNatClampNeg - 1 = nI M := by rw [hcX, hX, ← hM, nI_pred]
  unfold wpX_drop
  refine fx_sr RX hs hi (br_f (by decide) (fx_lo 3 s rfl rfl ⟨hvX, nm_r eM (fx_shift (by omega) (by omega) (by omega) ⟨hvX, nm_r (e' := upd ls (5 * 3 + s) (nI M)) (by rw [hcX]) ?_⟩)⟩))
  exact fy_drop RY hs hi hM ⟨rfl, fb_mk hpe hax hsg hpk (fb_tabs_st htab hsg hax hpk (fb_drX RX hs hi hM _ rfl) (fb_drY RY hs hi hM _ _ (by omega) (by omega)))⟩
theorem fb_mvX {ls rm ra rc : Nat → Int32} {t0 s i j : Nat} {T : fb_Tab} (R : fb_rep ls rm ra rc t0 T) (hs : s < 5) (hi : i < T.1 s) (hj : j < T.1 s) (B : Nat) (hB : B = 6 * (5 * t0 + s)) :
    fb_rep ls (upd (fb_dn (B + j) (B + i) (fb_up (B + i) (B + j) rm)) (B + j) (rm (B + i))) (upd (fb_dn (B + j) (B + i) (fb_up (B + i) (B + j) ra)) (B + j) (ra (B + i))) (upd (fb_dn (B + j) (B + i) (fb_up (B + i) (B + j) rc)) (B + j) (rc (B + i))) t0
      (fb_tset T s (T.1 s) (fun k => T.2.1 s (fb_mvi i j k)) (fun k => T.2.2.1 s (fb_mvi i j k)) (fun k => T.2.2.2 s (fb_mvi i j k))) ∧
    ∀ t T', t ≠ t0 → fb_rep ls rm ra rc t T' → fb_rep ls (upd (fb_dn (B + j) (B + i) (fb_up (B + i) (B + j) rm)) (B + j) (rm (B + i))) (upd (fb_dn (B + j) (B + i) (fb_up (B + i) (B + j) ra)) (B + j) (ra (B + i))) (upd (fb_dn (B + j) (B + i) (fb_up (B + i) (B + j) rc)) (B + j) (rc (B + i))) t T' := by
  subst hB
  obtain ⟨h6, hl, hrm, hra, hrc⟩ := R s hs
  have hx : ∀ k, k < T.1 s → fb_mvi i j k < T.1 s := fun k hk => fb_mvi_lt hi hj hk
  exact fb_side R hs h6 hl (fun q hq => rfl)
    (fb_row_ix hrm hx (fun k hk => fb_cellX rm _ i j k)) (fb_row_ix hra hx (fun k hk => fb_cellX ra _ i j k)) (fb_row_ix hrc hx (fun k hk => fb_cellX rc _ i j k))
    (fun q hq => fb_frX rm (by omega) (by omega) hq _) (fun q hq => fb_frX ra (by omega) (by omega) hq _) (fun q hq => fb_frX rc (by omega) (by omega) hq _)
theorem fb_mvY {ls rm ra rc : Nat → Int32} {t0 s i j M : Nat} {T : fb_Tab} (R : fb_rep ls rm ra rc t0 T) (hs : s < 5) (hi : i < T.1 s) (hj : j < T.1 s) (hM : M + 1 = T.1 s) (B C : Nat) (hB : B = 6 * (5 * t0 + s)) (hC : C = 5 * t0 + s) :
    fb_rep (upd (upd ls C (nI M)) C (nI (M + 1))) (upd (fb_dn (B + j) (B + M) (fb_up (B + i) (B + M) rm)) (B + j) (rm (B + i))) (upd (fb_dn (B + j) (B + M) (fb_up (B + i) (B + M) ra)) (B + j) (ra (B + i))) (upd (fb_dn (B + j) (B + M) (fb_up (B + i) (B + M) rc)) (B + j) (rc (B + i))) t0
      (fb_tset T s (T.1 s) (fun k => T.2.1 s (fb_mvi i j k)) (fun k => T.2.2.1 s (fb_mvi i j k)) (fun k => T.2.2.2 s (fb_mvi i j k))) ∧
    ∀ t T', t ≠ t0 → fb_rep ls rm ra rc t T' → fb_rep (upd (upd ls C (nI M)) C (nI (M + 1))) (upd (fb_dn (B + j) (B + M) (fb_up (B + i) (B + M) rm)) (B + j) (rm (B + i))) (upd (fb_dn (B + j) (B + M) (fb_up (B + i) (B + M) ra)) (B + j) (ra (B + i))) (upd (fb_dn (B + j) (B + M) (fb_up (B + i) (B + M) rc)) (B + j) (rc (B + i))) t T' := by
  subst hB hC
  obtain ⟨h6, hl, hrm, hra, hrc⟩ := R s hs
  have hx : ∀ k, k < T.1 s → fb_mvi i j k < T.1 s := fun k hk => fb_mvi_lt hi hj hk
  exact fb_side R hs h6 (by rw [pk_us, hM]) (fun q hq => by rw [pk_un hq, pk_un hq])
    (fb_row_ix hrm hx (fun k hk => fb_cellY rm (n := T.1 s) (by omega) hi hj hk)) (fb_row_ix hra hx (fun k hk => fb_cellY ra (n := T.1 s) (by omega) hi hj hk)) (fb_row_ix hrc hx (fun k hk => fb_cellY rc (n := T.1 s) (by omega) hi hj hk))
    (fun q hq => fb_frY rm (by omega) (by omega) hq _) (fun q hq => fb_frY ra (by omega) (by omega) hq _) (fun q hq => fb_frY rc (by omega) (by omega) hq _)
theorem i_vc_move {k : Nat} {u : SX} {v : SY} (I : i_Rel k u v) (hk : k + 5 ≤ 2560) (v1 : Int32) (v2 : Int32) (v3 : Int32) : wpX_move (fun r u' => wpY_move (fun r' v' => r' = r ∧ i_Rel (k + 5) u' v') v v1 v2 v3) u v1 v2 v3 := by
  obtain ⟨pe, st, pl, hd, tr, ls, rm, ra, rc, tX, ls', rm', ra', rc', tY, ax, sg, tt, τ, oP, oH, sn, rfl, rfl, hpe, hax, hsg, hpk, htab⟩ := I
  have I' := fb_mk (k := k + 5) (oP := oP) (oH := oH) (sn := sn) hpe hax hsg hpk htab
  obtain ⟨RX, RY⟩ := fb_0R hsg htab
  rcases fw_ix v1 (n := 5) (by omega) with h1 | ⟨s, hs, rfl⟩
  · unfold wpX_move
    refine fx_sr_s h1 (br_t rfl ?_)
    unfold wpY_move
    exact fy_nr_s h1 (br_f (by decide) ⟨rfl, I'⟩)
  obtain ⟨h6, hX, _⟩ := RX s hs
  rcases fw_ix v2 (n := (τ 3).1 s) (by omega) with h2 | ⟨i, hi, rfl⟩
  · unfold wpX_move
    refine fx_sr_i RX hs h2 (br_t rfl ?_)
    unfold wpY_move
    exact fy_nr_i RY hs h2 (br_f (by decide) ⟨rfl, I'⟩)
  rcases fw_ix v3 (n := (τ 3).1 s) (by omega) with h3 | ⟨j, hj, rfl⟩
  · unfold wpX_move
    refine fx_sr RX hs hi (br_f (by decide) (fx_sr_i RX hs h3 (br_t rfl ?_)))
    unfold wpY_move
    exact fy_nr RY hs hi (br_t rfl (fy_nr_i RY hs h3 (br_f (by decide) ⟨rfl, I'⟩)))
  obtain ⟨M, hM⟩ : ∃ M, M + 1 = (τ 3).1 s := ⟨(τ 3).1 s - 1, by omega⟩
  unfold wpX_move
  refine fx_sr RX hs hi (br_f (by decide) (fx_sr RX hs hj (br_f (by decide) (fx_lo 3 s rfl rfl (fx_shift (by omega) (by omega) (by omega) ?_)))))
  exact fy_move RY hs hi hj hM ⟨rfl, fb_mk hpe hax hsg hpk (fb_tabs_st htab hsg hax hpk (fb_mvX RX hs hi hj _ rfl) (fb_mvY RY hs hi hj hM _ _ (by omega) (by omega)))⟩
