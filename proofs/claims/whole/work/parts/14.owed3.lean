/-! what is owed: publish, revert, send, tick, state, where, header -/
theorem i_vc_state {k : Nat} {u : SX} {v : SY} (I : i_Rel k u v) (hk : k + 5 ≤ 2560) (v1 : Int32) : wpX_state (fun r => wpY_state (fun r' => r' = r ∧ i_Rel (k + 5) u v) v v1) u v1 := by
  obtain ⟨pe, st, pl, hd, tr, ls, rm, ra, rc, tX, ls', rm', ra', rc', tY, ax, sg, tt, τ, oP, oH, sn, rfl, rfl, hpe, hax, hsg, hpk, htab⟩ := I
  have I' := fb_mk (k := k + 5) (oP := oP) (oH := oH) (sn := sn) hpe hax hsg hpk htab
  unfold wpX_state
  rcases fw_ix v1 (n := 8) (by omega) with h1 | ⟨a, ha, rfl⟩
  · refine fx_out (L := 8) h1 (br_t rfl ?_)
    unfold wpY_state
    exact fw_sb (L := 7) (by omega) h1 ⟨rfl, I'⟩
  · have hv : vp_in (nI a) 8 := vp_in_nI ha (by omega)
    refine fx_in (L := 8) ha (by omega) (br_f (by decide) ⟨hv, ?_⟩)
    unfold wpY_state
    exact fw_sg (L := 7) (by omega) (by omega) ⟨hv, rfl, I'⟩
theorem i_vc_where {k : Nat} {u : SX} {v : SY} (I : i_Rel k u v) (hk : k + 5 ≤ 2560) (v1 : Int32) : wpX_where (fun r => wpY_where (fun r' => r' = r ∧ i_Rel (k + 5) u v) v v1) u v1 := by
  obtain ⟨pe, st, pl, hd, tr, ls, rm, ra, rc, tX, ls', rm', ra', rc', tY, ax, sg, tt, τ, oP, oH, sn, rfl, rfl, hpe, hax, hsg, hpk, htab⟩ := I
  have I' := fb_mk (k := k + 5) (oP := oP) (oH := oH) (sn := sn) hpe hax hsg hpk htab
  unfold wpX_where
  rcases fw_ix v1 (n := 8) (by omega) with h1 | ⟨a, ha, rfl⟩
  · refine fx_out (L := 8) h1 (br_t rfl ?_)
    unfold wpY_where
    exact fw_sb (L := 7) (by omega) h1 ⟨rfl, I'⟩
  · have hv : vp_in (nI a) 8 := vp_in_nI ha (by omega)
    refine fx_in (L := 8) ha (by omega) (br_f (by decide) ⟨hv, br_c (fun e => ?_) (fun e => ⟨hv, ?_⟩)⟩)
    · unfold wpY_where
      exact fw_sg (L := 7) (by omega) (by omega) ⟨hv, br_t e ⟨rfl, I'⟩⟩
    · unfold wpY_where
      exact fw_sg (L := 7) (by omega) (by omega) ⟨hv, br_f e ⟨hv, rfl, I'⟩⟩
theorem i_vc_header {k : Nat} {u : SX} {v : SY} (I : i_Rel k u v) (hk : k + 5 ≤ 2560) (v1 : Int32) : wpX_header (fun r => wpY_header (fun r' => r' = r ∧ i_Rel (k + 5) u v) v v1) u v1 := by
  obtain ⟨pe, st, pl, hd, tr, ls, rm, ra, rc, tX, ls', rm', ra', rc', tY, ax, sg, tt, τ, oP, oH, sn, rfl, rfl, hpe, hax, hsg, hpk, htab⟩ := I
  have I' := fb_mk (k := k + 5) (oP := oP) (oH := oH) (sn := sn) hpe hax hsg hpk htab
  unfold wpX_header
  rcases fw_ix v1 (n := 8) (by omega) with h1 | ⟨a, ha, rfl⟩
  · refine fx_out (L := 8) h1 (br_t rfl ?_)
    unfold wpY_header
    exact fw_sb (L := 7) (by omega) h1 ⟨rfl, I'⟩
  · have hv : vp_in (nI a) 8 := vp_in_nI ha (by omega)
    refine fx_in (L := 8) ha (by omega) (br_f (by decide) ⟨hv, br_c (fun e => ?_) (fun e => ⟨hv, ?_⟩)⟩)
    · unfold wpY_header
      exact fw_sg (L := 7) (by omega) (by omega) ⟨hv, br_t e ⟨rfl, I'⟩⟩
    · unfold wpY_header
      exact fw_sg (L := 7) (by omega) (by omega) ⟨hv, br_f e ⟨hv, rfl, I'⟩⟩
section
variable {fA : Int32} {pe ls rm ra rc st pl hd tX tr : Nat → Int32}
theorem fx_p29 {post : Int32 → SX → Prop} {x : Nat} {w : Nat → Bool} (ew : ∀ t, w t = fb_usR st tX (nI t)) (hx : x < 3)
    (hp : post (nI (fb_cnt (fun t => decide (t = x) || w t) 3)) (nI x, pe, fb_cp (5 * 3) (5 * x) ls 5, fb_cp (30 * 3) (30 * x) rm 30, fb_cp (30 * 3) (30 * x) ra 30, fb_cp (30 * 3) (30 * x) rc 30, st, pl, hd, tX, tr)) :
    wX_publish_29 post (nI x) pe ls rm ra rc st pl hd tX tr := by
  unfold wX_publish_29
  refine fx_ct 3 x rfl rfl (by omega) (by omega) (by omega) (fx_kt ?_)
  have e : fb_cnt (fun t => decide (nI t = nI x) || fb_usR st tX (nI t)) 3 = fb_cnt (fun t => decide (t = x) || w t) 3 := by
    refine fb_cnt_congr fun t ht => ?_
    have e1 : decide (nI t = nI x) = decide (t = x) := decide_eq_decide.mpr (nI_eq (by omega) (by omega))
    rw [e1, ew]
  rw [e]
  exact hp
theorem fx_publish {post : Int32 → SX → Prop} {ax : Nat} {w : Nat → Bool} (ew : ∀ t, w t = fb_usR st tX (nI t)) (hax : ax < 3) (hn : fb_px ax w = none → post (-4) (nI ax, pe, ls, rm, ra, rc, st, pl, hd, tX, tr))
    (hp : ∀ x, fb_px ax w = some x → x < 3 → post (nI (fb_cnt (fun t => decide (t = x) || w t) 3)) (nI x, pe, fb_cp (5 * 3) (5 * x) ls 5, fb_cp (30 * 3) (30 * x) rm 30, fb_cp (30 * 3) (30 * x) ra 30, fb_cp (30 * 3) (30 * x) rc 30, st, pl, hd, tX, tr)) :
    wpX_publish post (nI ax, pe, ls, rm, ra, rc, st, pl, hd, tX, tr) := by
  have ef : fb_find (fun t => !(decide (nI t = nI ax) || fb_usR st tX (nI t))) 3 0 = fb_find (fun t => !(decide (t = ax) || w t)) 3 0 := by
    refine fb_find_congr fun t _ ht => ?_
    have e1 : decide (nI t = nI ax) = decide (t = ax) := decide_eq_decide.mpr (nI_eq (by omega) (by omega))
    rw [e1, ew]
  unfold wpX_publish
  refine fx_tp (fun u => ?_) (fun u => ?_)
  · rw [← ew] at u
    have epx : fb_px ax w = fb_find (fun t => !(decide (t = ax) || w t)) 3 0 := by
      unfold fb_px
      exact if_pos u
    refine br_f (by decide) (fx_us ?_)
    rw [ef, ← epx]
    cases hx : fb_px ax w with
    | none => exact br_t rfl (hn hx)
    | some x =>
      have hx3 := (fb_px_some hax hx).1
      exact br_f (fw_m1 (n := x) (by omega)) (fx_p29 ew hx3 (hp x hx hx3))
  · rw [← ew] at u
    have epx : fb_px ax w = some ax := by
      unfold fb_px
      exact if_neg (by rw [u]; decide)
    exact br_t rfl (fx_p29 ew hax (hp ax epx hax))
end
theorem fb_sg_w {sg : Nat → Nat} {x y : Nat} {f g : Nat → Bool} (hsg : fb_perm sg) (hx : x < 3) (h1 : 1 ≤ y) (h3 : y ≤ 3) (e : ∀ t, t < 3 → g (sg t) = f t) (ux : f x = false) (wy : g y = false) :
    fb_cnt (fun t => decide (t + 1 = y) || g (t + 1)) 3 = fb_cnt (fun t => decide (t = x) || f t) 3 := by
  refine fb_cnt_perm (g := fun t => decide (t = y) || g t) (fb_sg_perm hsg hx h1 h3) (fun t ht => ?_)
  have pp := fb_sg_perm hsg hx h1 h3
  have ex : fb_sg sg x y x = y := if_pos rfl
  by_cases htx : t = x
  · subst htx
    rw [ex, decide_eq_true rfl, decide_eq_true rfl]
    rfl
  · have hne : ¬ fb_sg sg x y t = y := fun z => htx (pp.2.2 t x ht hx (z.trans ex.symm))
    rw [decide_eq_false hne, decide_eq_false htx, Bool.false_or, Bool.false_or]
    by_cases hy : sg t = y
    · have e2 : fb_sg sg x y t = sg x := (if_neg htx).trans (if_pos hy)
      rw [e2, e x hx, ux, ← e t ht, hy, wy]
    · have e2 : fb_sg sg x y t = sg t := (if_neg htx).trans (if_neg hy)
      rw [e2, e t ht]
theorem i_vc_publish {k : Nat} {u : SX} {v : SY} (I : i_Rel k u v) (hk : k + 5 ≤ 2560) : wpX_publish (fun r u' => wpY_publish (fun r' v' => r' = r ∧ i_Rel (k + 5) u' v') v) u := by
  obtain ⟨pe, st, pl, hd, tr, ls, rm, ra, rc, tX, ls', rm', ra', rc', tY, ax, sg, tt, τ, oP, oH, sn, rfl, rfl, hpe, hax, hsg, hpk, htab⟩ := I
  have I' := fb_mk (k := k + 5) (oP := oP) (oH := oH) (sn := sn) hpe hax hsg hpk htab
  have hay := hsg.2.1 ax hax
  have e : ∀ t, t < 3 → fb_usR st tY (nI (sg t)) = fb_usR st tX (nI t) := fun t ht => fb_us_sg hpk hsg ht
  have hpub := fb_pub (u := fun t => fb_usR st tX (nI t)) (w := fun t => fb_usR st tY (nI t)) hsg hax e
  refine fx_publish (w := fun t => fb_usR st tX (nI t)) (fun _ => rfl) hax (fun hn => ?_) (fun x hx hx3 => ?_)
  · refine fy_publish (w := fun t => fb_usR st tY (nI t)) (fun _ => rfl) hay.1 hay.2 rfl (fun _ => ⟨rfl, I'⟩) (fun y hy h1 h3 => ?_)
    rcases hpub with ⟨_, h0⟩ | ⟨x, _, h, _⟩
    · omega
    · rw [hn] at h
      cases h
  · rcases hpub with ⟨h0, _⟩ | ⟨x', y', hx', hy', _, ux, r1, r3, wy⟩
    · rw [hx] at h0
      cases h0
    · rw [hx] at hx'
      cases hx'
      refine fy_publish (w := fun t => fb_usR st tY (nI t)) (fun _ => rfl) hay.1 hay.2 rfl (fun h0 => by omega) (fun y hy h1 h3 => ?_)
      obtain rfl : y = y' := hy.symm.trans hy'
      have ex : fb_sg sg x y x = y := if_pos rfl
      have hus : ∀ t, fb_used st tt t → t ≠ x ∧ t < 3 ∧ sg t ≠ y ∧ fb_sg sg x y t = sg t := by
        intro t hu
        obtain ⟨ht3, ht⟩ := fb_us_used hpk hu
        have n1 : t ≠ x := by
          intro z
          rw [z, ux] at ht
          cases ht
        have n2 : sg t ≠ y := by
          intro z
          rw [← e t ht3, z, wy] at ht
          cases ht
        exact ⟨n1, ht3, n2, (if_neg n1).trans (if_neg n2)⟩
      refine ⟨congrArg nI (fb_sg_w (f := fun t => fb_usR st tX (nI t)) (g := fun t => fb_usR st tY (nI t)) hsg hx3 h1 h3 e ux wy), ?_⟩
      have hm := fb_mk (k := k + 5) (ax := x) (sg := fb_sg sg x y) (tt := tt) (τ := fun t => if t = x then τ 3 else τ t) (pe := pe) (st := st) (pl := pl) (hd := hd) (tr := tr) (tX := tX) (tY := tY)
        (ls := fb_cp (5 * 3) (5 * x) ls 5) (rm := fb_cp (30 * 3) (30 * x) rm 30) (ra := fb_cp (30 * 3) (30 * x) ra 30) (rc := fb_cp (30 * 3) (30 * x) rc 30)
        (ls' := fb_cp (5 * 0) (5 * y) ls' 5) (rm' := fb_cp (30 * 0) (30 * y) rm' 30) (ra' := fb_cp (30 * 0) (30 * y) ra' 30) (rc' := fb_cp (30 * 0) (30 * y) rc' 30) (oP := oP) (oH := oH) (sn := sn)
        hpe hx3 (fb_sg_perm hsg hx3 h1 h3) ?_ ?_
      · rw [ex] at hm
        exact hm
      · intro j hj hst
        obtain ⟨a, b, c, d, e1, e2⟩ := hpk j hj hst
        rw [(hus (tt j) ⟨j, hj, hst, rfl⟩).2.2.2]
        exact ⟨a, b, c, d, e1, e2⟩
      · obtain ⟨RX, RY⟩ := fb_0R hsg htab
        intro t ht
        dsimp only
        rcases ht with ht | ht | ht
        · subst ht
          have e3 : fb_sg sg x y 3 = 0 := (fb_sg_perm hsg hx3 h1 h3).1
          rw [if_neg (by omega), e3]
          exact ⟨fb_rep_cpn (by omega) RX, fb_rep_cpn (by omega) RY⟩
        · subst ht
          rw [if_pos rfl, ex]
          exact ⟨fb_rep_cp RX, fb_rep_cp RY⟩
        · obtain ⟨n1, n2, n3, n4⟩ := hus t ht
          rw [if_neg n1, n4]
          have hh := htab t (Or.inr (Or.inr ht))
          exact ⟨fb_rep_cpn n1 hh.1, fb_rep_cpn n3 hh.2⟩
theorem i_vc_revert {k : Nat} {u : SX} {v : SY} (I : i_Rel k u v) (hk : k + 5 ≤ 2560) : wpX_revert (fun r u' => wpY_revert (fun r' v' => r' = r ∧ i_Rel (k + 5) u' v') v) u := by
  obtain ⟨pe, st, pl, hd, tr, ls, rm, ra, rc, tX, ls', rm', ra', rc', tY, ax, sg, tt, τ, oP, oH, sn, rfl, rfl, hpe, hax, hsg, hpk, htab⟩ := I
  have hay := hsg.2.1 ax hax
  have hA := htab ax (Or.inr (Or.inl rfl))
  have RX := fb_rep_cp (b := 3) hA.1
  have RY := fb_rep_cp (b := 0) hA.2
  unfold wpX_revert
  refine fx_ct ax 3 rfl rfl (by omega) (by omega) (by omega) ⟨6, fx_rv13 ?_ 5 0 rfl 6 (by omega)⟩
  unfold wpY_revert
  refine fy_ct (sg ax) 0 rfl rfl (by omega) (by omega) (by omega) ⟨?_, ?_⟩
  · have x0 := (RX 0 (by omega)).2.1
    have x1 := (RX 1 (by omega)).2.1
    have x2 := (RX 2 (by omega)).2.1
    have x3 := (RX 3 (by omega)).2.1
    have x4 := (RX 4 (by omega)).2.1
    have y0 := (RY 0 (by omega)).2.1
    have y1 := (RY 1 (by omega)).2.1
    have y2 := (RY 2 (by omega)).2.1
    have y3 := (RY 3 (by omega)).2.1
    have y4 := (RY 4 (by omega)).2.1
    simp only [fb_sum]
    have z0 := y0.trans x0.symm
    have z1 := y1.trans x1.symm
    have z2 := y2.trans x2.symm
    have z3 := y3.trans x3.symm
    have z4 := y4.trans x4.symm
    rw [Int32.zero_add]
    exact congr (congrArg _ (congr (congrArg _ (congr (congrArg _ (congr (congrArg _ z0) z1)) z2)) z3)) z4
  · refine fb_mk (τ := fun t => if t = 3 then τ ax else τ t) hpe hax hsg hpk (fb_tabs_st htab hsg hax hpk ⟨RX, fun t T hne R => fb_rep_cpn hne R⟩ ⟨RY, fun t T hne R => fb_rep_cpn hne R⟩)
theorem i_vc_send {k : Nat} {u : SX} {v : SY} (I : i_Rel k u v) (hk : k + 5 ≤ 2560) (v1 : Int32) (v2 : Int32) : wpX_send (fun r u' => wpY_send (fun r' v' => r' = r ∧ i_Rel (k + 5) u' v') v v1 v2) u v1 v2 := by
  obtain ⟨pe, st, pl, hd, tr, ls, rm, ra, rc, tX, ls', rm', ra', rc', tY, ax, sg, tt, τ, oP, oH, sn, rfl, rfl, hpe, hax, hsg, hpk, htab⟩ := I
  have I' := fb_mk (k := k + 5) (oP := oP) (oH := oH) (sn := sn) hpe hax hsg hpk htab
  unfold wpX_send
  rcases fw_ix v1 (n := 20) (by omega) with h1 | ⟨p, hp20, rfl⟩
  · refine fx_out (L := 20) h1 (br_t rfl ?_)
    unfold wpY_send
    exact fy_plb h1 (br_f (by decide) ⟨rfl, I'⟩)
  refine fx_in (L := 20) hp20 (by omega) (br_f (by decide) ?_)
  rcases fw_ix v2 (n := 64) (by omega) with h2 | ⟨h, hh, rfl⟩
  · refine fx_out (L := 64) h2 (br_t rfl ?_)
    unfold wpY_send
    exact fy_pl hp20 (br_t rfl (fy_byb h2 (br_f (by decide) ⟨rfl, I'⟩)))
  have hvp : vp_in (nI p) 20 := vp_in_nI hp20 (by omega)
  have hcp : (nI p).toNatClampNeg = p := nI_clamp (by omega)
  refine fx_in (L := 64) hh (by omega) (br_f (by decide) ⟨hvp, ?_⟩)
  rw [hcp]
  by_cases ep : pe p = -1
  · refine br_t ep (fx_lf ?_)
    cases hf : fb_find (fun k => decide (¬ st k = 1)) 8 0 with
    | none =>
      have hall : ∀ j, j < 8 → st j = 1 := by
        intro j hj
        have := fb_find_none hf j (by omega) (by omega)
        exact Decidable.of_not_not (of_decide_eq_false this)
      refine br_t rfl ?_
      unfold wpY_send
      refine fy_pl hp20 (br_t rfl (fy_by hh (br_t rfl ⟨hvp, ?_⟩)))
      rw [hcp]
      refine br_t (fw_no ep).2 (fy_if (br_t ?_ ⟨rfl, I'⟩))
      rw [fb_cnt_all (fun j hj => decide_eq_true (hall j hj))]
      rfl
    | some j =>
      obtain ⟨_, hj8, hjf⟩ := fb_find_some hf
      have hst : ¬ st j = 1 := of_decide_eq_true hjf
      have hlt : ∀ i, i < j → st i = 1 := by
        intro i hi
        have := fb_find_min hf i (by omega) hi
        exact Decidable.of_not_not (of_decide_eq_false this)
      have hvj : vp_in (nI j) 8 := vp_in_nI (by omega) (by omega)
      have hcj : (nI j).toNatClampNeg = j := nI_clamp (by omega)
      refine br_f (c := fb_oi (-1) (some j) = -1) (fw_m1 (n := j) (by omega)) ?_
      rw [show fb_oi (-1) (some j) = nI j from rfl, hcj]
      refine ⟨hvj, nm_e ⟨hvj, nm_e ⟨hvj, nm_e ⟨hvj, nm_e ⟨hvj, nm_e ?_⟩⟩⟩⟩⟩
      unfold wpY_send
      refine fy_pl hp20 (br_t rfl (fy_by hh (br_t rfl ⟨hvp, ?_⟩)))
      rw [hcp]
      have hcl := fb_cnt_lt (f := fun k => decide (st k = 1)) (n := 8) (j := j) (by omega) (fun z => hst (of_decide_eq_true z))
      refine br_t (fw_no ep).2 (fy_if (br_f (fun z => ?_) ⟨j + 1, fy_s44 (by omega) hst hlt ⟨rfl, ?_⟩ j 0 (by omega) (j + 1) (by omega)⟩))
      · have := (nI_eq (b := 8) (by omega) (by omega)).mp z
        omega
      · have hpk' : fb_pkok (upd st j 1) (upd pl j (nI p)) (upd hd j (nI h)) (upd tr j 0) (upd tX j (nI ax)) (upd tY j (nI (sg ax))) (fun i => if i = j then ax else tt i) sg := by
          intro i hi his
          dsimp only
          by_cases e : i = j
          · subst e
            rw [pk_us, pk_us, pk_us, pk_us, pk_us, if_pos rfl]
            exact ⟨⟨p, hp20, rfl⟩, ⟨h, hh, rfl⟩, ⟨0, by omega, rfl⟩, hax, rfl, rfl⟩
          · rw [pk_un e] at his
            rw [pk_un e, pk_un e, pk_un e, pk_un e, pk_un e, if_neg e]
            exact hpk i hi his
        refine fb_mk (τ := τ) hpe hax hsg hpk' ?_
        intro t ht
        refine htab t ?_
        rcases ht with ht | ht | ⟨i, hi, his, hti⟩
        · exact Or.inl ht
        · exact Or.inr (Or.inl ht)
        · dsimp only at hti
          by_cases e : i = j
          · rw [if_pos e] at hti
            exact Or.inr (Or.inl hti.symm)
          · rw [if_neg e] at hti
            rw [pk_un e] at his
            exact Or.inr (Or.inr ⟨i, hi, his, hti⟩)
  · obtain ⟨c, hc, ec⟩ := fb_pe_on hpe hp20 ep
    refine br_f ep ?_
    unfold wpY_send
    refine fy_pl hp20 (br_t rfl (fy_by hh (br_t rfl ⟨hvp, ?_⟩)))
    rw [hcp]
    exact br_f (by rw [ec]; exact nI_pos (by omega)) ⟨rfl, I'⟩
theorem i_vc_tick {k : Nat} {u : SX} {v : SY} (I : i_Rel k u v) (hk : k + 5 ≤ 2560) : wpX_tick (fun r u' => wpY_tick (fun r' v' => r' = r ∧ i_Rel (k + 5) u' v') v) u := by
  obtain ⟨pe, st, pl, hd, tr, ls, rm, ra, rc, tX, ls', rm', ra', rc', tY, ax, sg, tt, τ, oP, oH, sn, rfl, rfl, hpe, hax, hsg, hpk, htab⟩ := I
  have hR : ∀ k, k < 8 → st k = 1 → tt k < 3 ∧ fb_rep ls rm ra rc (tt k) (τ (tt k)) ∧ fb_rep ls' rm' ra' rc' (sg (tt k)) (τ (tt k)) := by
    intro j hj hst
    have h := htab (tt j) (Or.inr (Or.inr ⟨j, hj, hst, rfl⟩))
    exact ⟨(hpk j hj hst).2.2.2.1, h.1, h.2⟩
  have hQ := fb_tk_ok (τ := τ) (q := (st, pl, hd, tr)) hpe (fun j hj hst => fb_rep_ok (hR j hj hst).2.1) hpk 8 (by omega)
  generalize eQ : fb_tk τ pe tt 8 (st, pl, hd, tr) = Q at hQ
  obtain ⟨hQ1, hQ2⟩ := hQ
  refine fx_tick (τ := τ) (tt := tt) (sg := sg) hpe (fun j hj hst => ⟨by have := (hR j hj hst).1; omega, (hR j hj hst).2.1⟩) hpk Q eQ ?_
  refine fy_tick (τ := τ) (tt := tt) (sg := sg) hpe (fun j hj hst => ⟨by have := hsg.2.1 _ (hR j hj hst).1; omega, (hR j hj hst).2.2⟩) hpk Q eQ (fun oP oH => ⟨rfl, ?_⟩)
  refine fb_mk (τ := τ) hpe hax hsg hQ1 ?_
  intro t ht
  refine htab t ?_
  rcases ht with ht | ht | ⟨i, hi, his, hti⟩
  · exact Or.inl ht
  · exact Or.inr (Or.inl ht)
  · exact Or.inr (Or.inr ⟨i, hi, hQ2 i his, hti⟩)
