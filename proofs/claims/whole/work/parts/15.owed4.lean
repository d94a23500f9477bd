/-! what is owed: the questions -/
theorem fb_from {ls rm ra rc ls' rm' ra' rc' st : Nat → Int32} {ax : Nat} {sg tt : Nat → Nat} {τ : Nat → fb_Tab} (hsg : fb_perm sg) (hax : ax < 3) (htab : fb_tabs ls rm ra rc ls' rm' ra' rc' st ax sg tt τ) (f : Nat) :
    ∃ t, t < 4 ∧ sg t < 4 ∧ fb_rep ls rm ra rc t (τ t) ∧ fb_rep ls' rm' ra' rc' (sg t) (τ t) ∧ ((f < 20 ∧ nI ax = nI t) ∨ (20 ≤ f ∧ t = 3)) ∧ ((f < 20 ∧ nI (sg ax) = nI (sg t)) ∨ (20 ≤ f ∧ sg t = 0)) := by
  by_cases hf : f < 20
  · have h := htab ax (Or.inr (Or.inl rfl))
    have r := hsg.2.1 ax hax
    exact ⟨ax, by omega, by omega, h.1, h.2, Or.inl ⟨hf, rfl⟩, Or.inl ⟨hf, rfl⟩⟩
  · have h := htab 3 (Or.inl rfl)
    have r := hsg.1
    exact ⟨3, by omega, by omega, h.1, h.2, Or.inr ⟨by omega, rfl⟩, Or.inr ⟨by omega, r⟩⟩
theorem i_vc_end {k : Nat} {u : SX} {v : SY} (I : i_Rel k u v) (hk : k + 5 ≤ 2560) (v1 : Int32) (v2 : Int32) : wpX_end (fun r => wpY_end (fun r' v' => r' = r ∧ i_Rel (k + 5) u v') v v1 v2) u v1 v2 := by
  obtain ⟨pe, st, pl, hd, tr, ls, rm, ra, rc, tX, ls', rm', ra', rc', tY, ax, sg, tt, τ, oP, oH, sn, rfl, rfl, hpe, hax, hsg, hpk, htab⟩ := I
  have I' := fun oP oH sn => fb_mk (k := k + 5) (oP := oP) (oH := oH) (sn := sn) hpe hax hsg hpk htab
  unfold wpX_end
  rcases fw_ix v1 (n := 40) (by omega) with h1 | ⟨f, hf, rfl⟩
  · refine fx_out (L := 40) h1 (br_t rfl ?_)
    unfold wpY_end
    exact fy_frb h1 (br_f (by decide) ⟨rfl, I' _ _ _⟩)
  refine fx_in (L := 40) hf (by omega) (br_f (by decide) ?_)
  rcases fw_ix v2 (n := 64) (by omega) with h2 | ⟨h, hh, rfl⟩
  · refine fx_out (L := 64) h2 (br_t rfl ?_)
    unfold wpY_end
    exact fy_fr hf (br_t rfl (fy_byb h2 (br_f (by decide) ⟨rfl, I' _ _ _⟩)))
  obtain ⟨t, ht, ht', RX, RY, eX, eY⟩ := fb_from hsg hax htab f
  refine fx_in (L := 64) hh (by omega) (br_f (by decide) (fx_fate RX ht hpe hf hh eX ?_))
  unfold wpY_end
  exact fy_fr hf (br_t rfl (fy_by hh (br_t rfl (fy_follow RY ht' hpe hf hh eY (fun o1 o2 => ⟨rfl, I' _ _ _⟩)))))
theorem i_vc_arriving {k : Nat} {u : SX} {v : SY} (I : i_Rel k u v) (hk : k + 5 ≤ 2560) (v1 : Int32) (v2 : Int32) : wpX_arriving (fun r => wpY_arriving (fun r' v' => r' = r ∧ i_Rel (k + 5) u v') v v1 v2) u v1 v2 := by
  obtain ⟨pe, st, pl, hd, tr, ls, rm, ra, rc, tX, ls', rm', ra', rc', tY, ax, sg, tt, τ, oP, oH, sn, rfl, rfl, hpe, hax, hsg, hpk, htab⟩ := I
  have I' := fun oP oH sn => fb_mk (k := k + 5) (oP := oP) (oH := oH) (sn := sn) hpe hax hsg hpk htab
  unfold wpX_arriving
  rcases fw_ix v1 (n := 40) (by omega) with h1 | ⟨f, hf, rfl⟩
  · refine fx_out (L := 40) h1 (br_t rfl ?_)
    unfold wpY_arriving
    exact fy_frb h1 (br_f (by decide) ⟨rfl, I' _ _ _⟩)
  refine fx_in (L := 40) hf (by omega) (br_f (by decide) ?_)
  rcases fw_ix v2 (n := 20) (by omega) with h2 | ⟨p, hp20, rfl⟩
  · refine fx_out (L := 20) h2 (br_t rfl ?_)
    unfold wpY_arriving
    exact fy_fr hf (br_t rfl (fy_plb h2 (br_f (by decide) ⟨rfl, I' _ _ _⟩)))
  obtain ⟨t, ht, ht', RX, RY, eX, eY⟩ := fb_from hsg hax htab f
  refine fx_in (L := 20) hp20 (by omega) (br_f (by decide) (fx_cf (F := fun h => fb_fate (τ t) pe 16 (f % 20) h) (fun h hh P hP => fx_fate RX ht hpe hf hh eX hP) ?_))
  unfold wpY_arriving
  exact fy_fr hf (br_t rfl (fy_pl hp20 (br_t rfl (fy_cnt (F := fun h => fb_fate (τ t) pe 16 (f % 20) h) (S := fun h => fb_seen (τ t) pe 16 (f % 20) h 0) (fun h hh P oP oH sn hP => fy_follow RY ht' hpe hf hh eY hP) (fun oP oH sn => ⟨rfl, I' _ _ _⟩)))))
theorem i_vc_nextArriving {k : Nat} {u : SX} {v : SY} (I : i_Rel k u v) (hk : k + 5 ≤ 2560) (v1 : Int32) (v2 : Int32) (v3 : Int32) : wpX_nextArriving (fun r => wpY_nextArriving (fun r' v' => r' = r ∧ i_Rel (k + 5) u v') v v1 v2 v3) u v1 v2 v3 := by
  obtain ⟨pe, st, pl, hd, tr, ls, rm, ra, rc, tX, ls', rm', ra', rc', tY, ax, sg, tt, τ, oP, oH, sn, rfl, rfl, hpe, hax, hsg, hpk, htab⟩ := I
  have I' := fun oP oH sn => fb_mk (k := k + 5) (oP := oP) (oH := oH) (sn := sn) hpe hax hsg hpk htab
  unfold wpX_nextArriving
  rcases fw_ix v1 (n := 40) (by omega) with h1 | ⟨f, hf, rfl⟩
  · refine fx_out (L := 40) h1 (br_t rfl ?_)
    unfold wpY_nextArriving
    exact fy_frb h1 (br_f (by decide) ⟨rfl, I' _ _ _⟩)
  refine fx_in (L := 40) hf (by omega) (br_f (by decide) ?_)
  rcases fw_ix v2 (n := 20) (by omega) with h2 | ⟨p, hp20, rfl⟩
  · refine fx_out (L := 20) h2 (br_t rfl ?_)
    unfold wpY_nextArriving
    exact fy_fr hf (br_t rfl (fy_plb h2 (br_f (by decide) ⟨rfl, I' _ _ _⟩)))
  obtain ⟨t, ht, ht', RX, RY, eX, eY⟩ := fb_from hsg hax htab f
  refine fx_in (L := 20) hp20 (by omega) (br_f (by decide) ⟨65, fx_na (F := fun h => fb_fate (τ t) pe 16 (f % 20) h) (fun h hh P hP => fx_fate RX ht hpe hf hh eX hP) 64 0 rfl ?_ 65 (by omega)⟩)
  unfold wpY_nextArriving
  exact fy_fr hf (br_t rfl (fy_pl hp20 (br_t rfl ⟨65, fy_na (F := fun h => fb_fate (τ t) pe 16 (f % 20) h) (S := fun h => fb_seen (τ t) pe 16 (f % 20) h 0) (fun h hh P oP oH sn hP => fy_follow RY ht' hpe hf hh eY hP) 64 0 rfl (fun oP oH sn => ⟨rfl, I' _ _ _⟩) oP oH sn 65 (by omega)⟩)))
theorem i_vc_ending {k : Nat} {u : SX} {v : SY} (I : i_Rel k u v) (hk : k + 5 ≤ 2560) (v1 : Int32) (v2 : Int32) : wpX_ending (fun r => wpY_ending (fun r' v' => r' = r ∧ i_Rel (k + 5) u v') v v1 v2) u v1 v2 := by
  obtain ⟨pe, st, pl, hd, tr, ls, rm, ra, rc, tX, ls', rm', ra', rc', tY, ax, sg, tt, τ, oP, oH, sn, rfl, rfl, hpe, hax, hsg, hpk, htab⟩ := I
  have I' := fun oP oH sn => fb_mk (k := k + 5) (oP := oP) (oH := oH) (sn := sn) hpe hax hsg hpk htab
  unfold wpX_ending
  rcases fw_ix v1 (n := 40) (by omega) with h1 | ⟨f, hf, rfl⟩
  · refine fx_out (L := 40) h1 (br_t rfl ?_)
    unfold wpY_ending
    exact fy_frb h1 (br_f (by decide) ⟨rfl, I' _ _ _⟩)
  refine fx_in (L := 40) hf (by omega) (br_f (by decide) ?_)
  rcases fw_ix v2 (n := 2) (by omega) with h2 | ⟨j, hj, rfl⟩
  · refine fx_out (L := 2) h2 (br_t rfl ?_)
    unfold wpY_ending
    exact fy_fr hf (br_t rfl (fw_sb (L := 1) (by omega) h2 ⟨rfl, I' _ _ _⟩))
  obtain ⟨t, ht, ht', RX, RY, eX, eY⟩ := fb_from hsg hax htab f
  have hX : ∀ (w : Int32) (P : Int32 → Prop), P (nI (fb_cnt (fun h => decide (fb_fate (τ t) pe 16 (f % 20) h = w)) 64)) → wX_ending_30 P w (nI f) (nI ax) pe ls rm ra rc st pl hd tX tr := by
    intro w P hP
    unfold wX_ending_30
    exact fx_cf (F := fun h => fb_fate (τ t) pe 16 (f % 20) h) (fun h hh P hP => fx_fate RX ht hpe hf hh eX hP) hP
  have hY : ∀ w : Int32, 1 + nI j = w → wpY_ending (fun r' v' => r' = nI (fb_cnt (fun h => decide (fb_fate (τ t) pe 16 (f % 20) h = w)) 64) ∧ i_Rel (k + 5) (nI ax, pe, ls, rm, ra, rc, st, pl, hd, tX, tr) v') (nI (sg ax), oP, oH, sn, pe, ls', rm', ra', rc', st, pl, hd, tY, tr) (nI f) (nI j) := by
    intro w ew
    subst ew
    unfold wpY_ending
    exact fy_fr hf (br_t rfl (fw_sg (L := 1) (by omega) (by omega) (fy_cnt (F := fun h => fb_fate (τ t) pe 16 (f % 20) h) (S := fun h => fb_seen (τ t) pe 16 (f % 20) h 0) (fun h hh P oP oH sn hP => fy_follow RY ht' hpe hf hh eY hP) (fun oP oH sn => ⟨rfl, I' _ _ _⟩))))
  refine fx_in (L := 2) hj (by omega) (br_f (by decide) (pk_eq j 0 (fun e => hX 1 _ (hY 1 ?_)) (fun e => hX 2 _ (hY 2 ?_))))
  · rw [e]; rfl
  · rw [show j = 1 by omega]; rfl
theorem i_vc_visiting {k : Nat} {u : SX} {v : SY} (I : i_Rel k u v) (hk : k + 5 ≤ 2560) (v1 : Int32) (v2 : Int32) : wpX_visiting (fun r => wpY_visiting (fun r' v' => r' = r ∧ i_Rel (k + 5) u v') v v1 v2) u v1 v2 := by
  obtain ⟨pe, st, pl, hd, tr, ls, rm, ra, rc, tX, ls', rm', ra', rc', tY, ax, sg, tt, τ, oP, oH, sn, rfl, rfl, hpe, hax, hsg, hpk, htab⟩ := I
  have I' := fun oP oH sn => fb_mk (k := k + 5) (oP := oP) (oH := oH) (sn := sn) hpe hax hsg hpk htab
  unfold wpX_visiting
  rcases fw_ix v1 (n := 40) (by omega) with h1 | ⟨f, hf, rfl⟩
  · refine fx_out (L := 40) h1 (br_t rfl ?_)
    unfold wpY_visiting
    exact fy_frb h1 (br_f (by decide) ⟨rfl, I' _ _ _⟩)
  refine fx_in (L := 40) hf (by omega) (br_f (by decide) ?_)
  rcases fw_ix v2 (n := 5) (by omega) with h2 | ⟨s, hs, rfl⟩
  · refine fx_out (L := 5) h2 (br_t rfl ?_)
    unfold wpY_visiting
    exact fy_fr hf (br_t rfl (fw_sb (L := 4) (by omega) h2 ⟨rfl, I' _ _ _⟩))
  obtain ⟨t, ht, ht', RX, RY, eX, eY⟩ := fb_from hsg hax htab f
  refine fx_in (L := 5) hs (by omega) (br_f (by decide) ⟨65, fx_vi (G := fun h => fb_sees (τ t) pe s 16 (f % 20) h) (fun h hh P hP1 hP0 => fx_comes RX ht hs hpe hf hh eX hP1 hP0) ?_ 64 0 rfl 65 (by omega)⟩)
  unfold wpY_visiting
  refine fy_fr hf (br_t rfl (fw_sg (L := 4) (by omega) (by omega) ⟨65, fy_vi (F := fun h => fb_fate (τ t) pe 16 (f % 20) h) (S := fun h => fb_seen (τ t) pe 16 (f % 20) h 0) (G := fun h => fb_sees (τ t) pe s 16 (f % 20) h) hs (fun h hh P oP oH sn hP => fy_follow RY ht' hpe hf hh eY hP) (fun h hh => ?_) (fun oP oH sn => ⟨rfl, I' _ _ _⟩) 64 0 rfl oP oH sn 65 (by omega)⟩))
  have r := fb_seen_spec (fb_rep_ok RX) hpe hs 16 (f % 20) h 0 (by omega) hh (by omega)
  rw [Nat.zero_testBit, Bool.false_or] at r
  exact r
theorem i_vc_differing {k : Nat} {u : SX} {v : SY} (I : i_Rel k u v) (hk : k + 5 ≤ 2560) (v1 : Int32) : wpX_differing (fun r => wpY_differing (fun r' v' => r' = r ∧ i_Rel (k + 5) u v') v v1) u v1 := by
  obtain ⟨pe, st, pl, hd, tr, ls, rm, ra, rc, tX, ls', rm', ra', rc', tY, ax, sg, tt, τ, oP, oH, sn, rfl, rfl, hpe, hax, hsg, hpk, htab⟩ := I
  have I' := fun oP oH sn => fb_mk (k := k + 5) (oP := oP) (oH := oH) (sn := sn) hpe hax hsg hpk htab
  unfold wpX_differing
  rcases fw_ix v1 (n := 20) (by omega) with h1 | ⟨p, hp20, rfl⟩
  · refine fx_out (L := 20) h1 (br_t rfl ?_)
    unfold wpY_differing
    exact fy_plb h1 (br_f (by decide) ⟨rfl, I' _ _ _⟩)
  obtain ⟨t, ht, ht', RX, RY, eX, eY⟩ := fb_from hsg hax htab p
  obtain ⟨z, hz, hz', SX', SY', gX, gY⟩ := fb_from hsg hax htab (p + 20)
  have e20 : nI p + 20 = nI (p + 20) := nI_add p 20
  refine fx_in (L := 20) hp20 (by omega) (br_f (by decide) ⟨65, fx_di (F := fun h => fb_fate (τ t) pe 16 (p % 20) h) (G := fun h => fb_fate (τ z) pe 16 ((p + 20) % 20) h) (fun h hh P hP => fx_fate RX ht hpe (by omega) hh eX hP)
    (fun h hh P hP => by rw [e20]; exact fx_fate SX' hz hpe (by omega) hh gX hP) ?_ 64 0 rfl 65 (by omega)⟩)
  unfold wpY_differing
  exact fy_pl hp20 (br_t rfl ⟨65, fy_di (F := fun h => fb_fate (τ t) pe 16 (p % 20) h) (G := fun h => fb_fate (τ z) pe 16 ((p + 20) % 20) h) (S := fun h => fb_seen (τ t) pe 16 (p % 20) h 0) (S' := fun h => fb_seen (τ z) pe 16 ((p + 20) % 20) h 0)
    (fun h hh P oP oH sn hP => fy_follow RY ht' hpe (by omega) hh eY hP) (fun h hh P oP oH sn hP => by rw [e20]; exact fy_follow SY' hz' hpe (by omega) hh gY hP) (fun oP oH sn => ⟨rfl, I' _ _ _⟩) 64 0 rfl oP oH sn 65 (by omega)⟩)
theorem i_vc_deciding {k : Nat} {u : SX} {v : SY} (I : i_Rel k u v) (hk : k + 5 ≤ 2560) (v1 : Int32) (v2 : Int32) : wpX_deciding (fun r => wpY_deciding (fun r' => r' = r ∧ i_Rel (k + 5) u v) v v1 v2) u v1 v2 := by
  obtain ⟨pe, st, pl, hd, tr, ls, rm, ra, rc, tX, ls', rm', ra', rc', tY, ax, sg, tt, τ, oP, oH, sn, rfl, rfl, hpe, hax, hsg, hpk, htab⟩ := I
  have I' := fb_mk (k := k + 5) (oP := oP) (oH := oH) (sn := sn) hpe hax hsg hpk htab
  obtain ⟨RX, RY⟩ := fb_0R hsg htab
  rcases fw_ix v1 (n := 5) (by omega) with h1 | ⟨s, hs, rfl⟩
  · unfold wpX_deciding
    refine fx_sr_s h1 (br_t rfl ?_)
    unfold wpY_deciding
    exact fy_nr_s h1 (br_f (by decide) ⟨rfl, I'⟩)
  have h6 := (RX s hs).1
  rcases fw_ix v2 (n := (τ 3).1 s) (by omega) with h2 | ⟨i, hi, rfl⟩
  · unfold wpX_deciding
    refine fx_sr_i RX hs h2 (br_t rfl ?_)
    unfold wpY_deciding
    exact fy_nr_i RY hs h2 (br_f (by decide) ⟨rfl, I'⟩)
  have e6 : nI (5 * 3 + s) * 6 + nI i = nI (6 * (5 * 3 + s) + i) := by
    rw [show (6 : Int32) = nI 6 from rfl, pk_mul, nI_add]
    exact congrArg nI (by omega)
  unfold wpX_deciding
  refine fx_sr RX hs hi (br_f (by decide) (fx_lo 3 s rfl rfl (nm_r e6 ⟨65, fx_dg RX hs hi ?_ 64 0 rfl 65 (by omega)⟩)))
  unfold wpY_deciding
  exact fy_nr RY hs hi (br_t rfl ⟨65, fy_dg RY hs hi ⟨rfl, I'⟩ 64 0 rfl 65 (by omega)⟩)
theorem i_vc_needless {k : Nat} {u : SX} {v : SY} (I : i_Rel k u v) (hk : k + 5 ≤ 2560) (v1 : Int32) (v2 : Int32) : wpX_needless (fun r => wpY_needless (fun r' v' => r' = r ∧ i_Rel (k + 5) u v') v v1 v2) u v1 v2 := by
  obtain ⟨pe, st, pl, hd, tr, ls, rm, ra, rc, tX, ls', rm', ra', rc', tY, ax, sg, tt, τ, oP, oH, sn, rfl, rfl, hpe, hax, hsg, hpk, htab⟩ := I
  have I' := fun oP oH sn => fb_mk (k := k + 5) (oP := oP) (oH := oH) (sn := sn) hpe hax hsg hpk htab
  obtain ⟨RX, RY⟩ := fb_0R hsg htab
  rcases fw_ix v1 (n := 5) (by omega) with h1 | ⟨s, hs, rfl⟩
  · unfold wpX_needless
    refine fx_sr_s h1 (br_t rfl ?_)
    unfold wpY_needless
    exact fy_nr_s h1 (br_f (by decide) ⟨rfl, I' _ _ _⟩)
  have h6 := (RX s hs).1
  rcases fw_ix v2 (n := (τ 3).1 s) (by omega) with h2 | ⟨i, hi, rfl⟩
  · unfold wpX_needless
    refine fx_sr_i RX hs h2 (br_t rfl ?_)
    unfold wpY_needless
    exact fy_nr_i RY hs h2 (br_f (by decide) ⟨rfl, I' _ _ _⟩)
  have e6 : nI (5 * 3 + s) * 6 + nI i = nI (6 * (5 * 3 + s) + i) := by
    rw [show (6 : Int32) = nI 6 from rfl, pk_mul, nI_add]
    exact congrArg nI (by omega)
  unfold wpX_needless
  refine fx_sr RX hs hi (br_f (by decide) (fx_lo 3 s rfl rfl (nm_r e6 ⟨5, fx_n25 RX hs hi 4 0 rfl (fun hE => ?_) (fun hA => ?_) 5 (by omega)⟩)))
  · unfold wpY_needless
    obtain ⟨c, a, b, hc⟩ := hE
    exact fy_nr RY hs hi (br_t rfl ⟨257, fy_nl RY hs hi 256 0 rfl (fun _ _ _ => ⟨rfl, I' _ _ _⟩) (fun hA => absurd (hA c (by omega) b) hc) oP oH 257 (by omega)⟩)
  · unfold wpY_needless
    exact fy_nr RY hs hi (br_t rfl ⟨257, fy_nl RY hs hi 256 0 rfl (fun ⟨c, a, b, hc⟩ => absurd (hA c (by omega) b) hc) (fun _ _ _ => ⟨rfl, I' _ _ _⟩) oP oH 257 (by omega)⟩)
