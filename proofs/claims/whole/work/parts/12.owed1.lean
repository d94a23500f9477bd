/-! what is owed: the relation, the start, links, lists -/
def i_Rel (k : Nat) (u : SX) (v : SY) : Prop := ∃ (pe st pl hd tr ls rm ra rc tX ls' rm' ra' rc' tY : Nat → Int32) (ax : Nat) (sg tt : Nat → Nat) (τ : Nat → fb_Tab) (oP oH sn : Int32),
  u = (nI ax, pe, ls, rm, ra, rc, st, pl, hd, tX, tr) ∧ v = (nI (sg ax), oP, oH, sn, pe, ls', rm', ra', rc', st, pl, hd, tY, tr) ∧ fb_pok pe ∧ ax < 3 ∧ fb_perm sg ∧ fb_pkok st pl hd tr tX tY tt sg ∧ fb_tabs ls rm ra rc ls' rm' ra' rc' st ax sg tt τ
theorem i_up {k : Nat} {u : SX} {v : SY} (h : i_Rel k u v) : i_Rel (k + 5) u v := h
theorem fb_mk {k : Nat} {pe st pl hd tr ls rm ra rc tX ls' rm' ra' rc' tY : Nat → Int32} {ax : Nat} {sg tt : Nat → Nat} {τ : Nat → fb_Tab} {oP oH sn : Int32}
    (hpe : fb_pok pe) (hax : ax < 3) (hsg : fb_perm sg) (hpk : fb_pkok st pl hd tr tX tY tt sg) (htab : fb_tabs ls rm ra rc ls' rm' ra' rc' st ax sg tt τ) : i_Rel k (nI ax, pe, ls, rm, ra, rc, st, pl, hd, tX, tr) (nI (sg ax), oP, oH, sn, pe, ls', rm', ra', rc', st, pl, hd, tY, tr) :=
  ⟨pe, st, pl, hd, tr, ls, rm, ra, rc, tX, ls', rm', ra', rc', tY, ax, sg, tt, τ, oP, oH, sn, rfl, rfl, hpe, hax, hsg, hpk, htab⟩
theorem i_vc0 : wpX_init (fun u => wpY_init (fun v => i_Rel 0 u v)) := by
  refine fx_init (fy_init ?_)
  refine fb_mk (ax := 0) (sg := fun t => if t = 3 then 0 else t + 1) (tt := fun _ => 0) (τ := fun _ => (fun _ => 0, fun _ _ => 0, fun _ _ => 0, fun _ _ => 0)) fb_li_ok (by omega) ?_ ?_ ?_
  · refine ⟨rfl, ?_, ?_⟩
    · intro t ht
      dsimp only
      rw [if_neg (by omega)]
      omega
    · intro t t' ht ht' e
      dsimp only at e
      rw [if_neg (by omega), if_neg (by omega)] at e
      omega
  · intro k _ h
    exact absurd (show (0 : Int32) = 1 from h) (by decide)
  · intro t _
    have h : ∀ t, fb_rep (fun _ => 0) (fun _ => 0) (fun _ => 0) (fun _ => 0) t (fun _ => 0, fun _ _ => 0, fun _ _ => 0, fun _ _ => 0) := by
      intro t s _
      exact ⟨Nat.zero_le _, rfl, fun i hi => absurd hi (Nat.not_lt_zero i), fun i hi => absurd hi (Nat.not_lt_zero i), fun i hi => absurd hi (Nat.not_lt_zero i)⟩
    exact ⟨h _, h _⟩
theorem fb_0R {ls rm ra rc ls' rm' ra' rc' st : Nat → Int32} {ax : Nat} {sg tt : Nat → Nat} {τ : Nat → fb_Tab} (hsg : fb_perm sg) (htab : fb_tabs ls rm ra rc ls' rm' ra' rc' st ax sg tt τ) : fb_rep ls rm ra rc 3 (τ 3) ∧ fb_rep ls' rm' ra' rc' 0 (τ 3) := by
  have h := htab 3 (Or.inl rfl)
  rw [hsg.1] at h
  exact h
theorem fb_pok_l {pe : Nat → Int32} {a b : Nat} (h : fb_pok pe) (ha : a < 20) (hb : b < 20) : fb_pok (upd (upd pe a (nI b)) b (nI a)) := by
  intro c hc
  by_cases e1 : c = b
  · rw [e1, pk_us]
    exact Or.inr ⟨a, ha, rfl⟩
  · rw [pk_un e1]
    by_cases e2 : c = a
    · rw [e2, pk_us]
      exact Or.inr ⟨b, hb, rfl⟩
    · rw [pk_un e2]
      exact h c hc
theorem fb_pok_u {pe : Nat → Int32} {a b : Nat} (h : fb_pok pe) : fb_pok (upd (upd pe a (-1)) b (-1)) := by
  intro c hc
  by_cases e1 : c = b
  · rw [e1, pk_us]
    exact Or.inl rfl
  · rw [pk_un e1]
    by_cases e2 : c = a
    · rw [e2, pk_us]
      exact Or.inl rfl
    · rw [pk_un e2]
      exact h c hc
theorem fw_ix (x : Int32) {n : Nat} (hn : n < 2 ^ 31) : (x < 0 ∨ nI n ≤ x) ∨ ∃ j : Nat, j < n ∧ x = nI j := by
  rcases pk_ix x hn with h | h | h
  · exact Or.inl (Or.inl h)
  · exact Or.inl (Or.inr h)
  · exact Or.inr h
theorem fw_no {x : Int32} (h : x = -1) : ¬ 0 ≤ x ∧ x < 0 := by
  rw [h]
  decide
theorem i_vc_link {k : Nat} {u : SX} {v : SY} (I : i_Rel k u v) (hk : k + 5 ≤ 2560) (v1 : Int32) (v2 : Int32) : wpX_link (fun r u' => wpY_link (fun r' v' => r' = r ∧ i_Rel (k + 5) u' v') v v1 v2) u v1 v2 := by
  obtain ⟨pe, st, pl, hd, tr, ls, rm, ra, rc, tX, ls', rm', ra', rc', tY, ax, sg, tt, τ, oP, oH, sn, rfl, rfl, hpe, hax, hsg, hpk, htab⟩ := I
  have I' := fb_mk (k := k + 5) (oP := oP) (oH := oH) (sn := sn) hpe hax hsg hpk htab
  unfold wpX_link
  rcases fw_ix v1 (n := 20) (by omega) with h1 | ⟨a, ha, rfl⟩
  · refine fx_out (L := 20) h1 (br_t rfl ?_)
    unfold wpY_link
    exact fy_plb h1 (br_f (by decide) ⟨rfl, I'⟩)
  · refine fx_in (L := 20) ha (by omega) (br_f (by decide) ?_)
    rcases fw_ix v2 (n := 20) (by omega) with h2 | ⟨b, hb, rfl⟩
    · refine fx_out (L := 20) h2 (br_t rfl ?_)
      unfold wpY_link
      exact fy_pl ha (br_t rfl (fy_plb h2 (br_f (by decide) ⟨rfl, I'⟩)))
    · refine fx_in (L := 20) hb (by omega) (br_f (by decide) ?_)
      have hva : vp_in (nI a) 20 := vp_in_nI ha (by omega)
      have hvb : vp_in (nI b) 20 := vp_in_nI hb (by omega)
      have hca : (nI a).toNatClampNeg = a := nI_clamp (by omega)
      have hcb : (nI b).toNatClampNeg = b := nI_clamp (by omega)
      by_cases e : nI a = nI b
      · refine br_t e ?_
        unfold wpY_link
        exact fy_pl ha (br_t rfl (fy_pl hb (br_t rfl (br_t e ⟨rfl, I'⟩))))
      · refine br_f e ⟨hva, ?_⟩
        rw [hca, hcb]
        by_cases ea : pe a = -1
        · refine br_t ea ⟨hvb, ?_⟩
          by_cases eb : pe b = -1
          · refine br_t eb ⟨hva, nm_e ⟨hvb, nm_e ?_⟩⟩
            unfold wpY_link
            refine fy_pl ha (br_t rfl (fy_pl hb (br_t rfl (br_f e ⟨hva, ?_⟩))))
            rw [hca, hcb]
            exact br_f (fw_no ea).1 ⟨hvb, br_t (fw_no eb).2 ⟨hva, nm_e ⟨hvb, nm_e ⟨rfl, fb_mk (fb_pok_l hpe ha hb) hax hsg hpk htab⟩⟩⟩⟩
          · obtain ⟨c, hc, ec⟩ := fb_pe_on hpe hb eb
            refine br_f eb ?_
            unfold wpY_link
            refine fy_pl ha (br_t rfl (fy_pl hb (br_t rfl (br_f e ⟨hva, ?_⟩))))
            rw [hca, hcb]
            exact br_f (fw_no ea).1 ⟨hvb, br_f (by rw [ec]; exact nI_pos (by omega)) ⟨rfl, I'⟩⟩
        · obtain ⟨c, hc, ec⟩ := fb_pe_on hpe ha ea
          refine br_f ea ?_
          unfold wpY_link
          refine fy_pl ha (br_t rfl (fy_pl hb (br_t rfl (br_f e ⟨hva, ?_⟩))))
          rw [hca]
          exact br_t (by rw [ec]; exact nI_pos' (by omega)) ⟨rfl, I'⟩
theorem i_vc_unlink {k : Nat} {u : SX} {v : SY} (I : i_Rel k u v) (hk : k + 5 ≤ 2560) (v1 : Int32) : wpX_unlink (fun r u' => wpY_unlink (fun r' v' => r' = r ∧ i_Rel (k + 5) u' v') v v1) u v1 := by
  obtain ⟨pe, st, pl, hd, tr, ls, rm, ra, rc, tX, ls', rm', ra', rc', tY, ax, sg, tt, τ, oP, oH, sn, rfl, rfl, hpe, hax, hsg, hpk, htab⟩ := I
  have I' := fb_mk (k := k + 5) (oP := oP) (oH := oH) (sn := sn) hpe hax hsg hpk htab
  unfold wpX_unlink
  rcases fw_ix v1 (n := 20) (by omega) with h1 | ⟨a, ha, rfl⟩
  · refine fx_out (L := 20) h1 (br_t rfl ?_)
    unfold wpY_unlink
    exact fy_plb h1 (br_f (by decide) ⟨rfl, I'⟩)
  · have hva : vp_in (nI a) 20 := vp_in_nI ha (by omega)
    have hca : (nI a).toNatClampNeg = a := nI_clamp (by omega)
    refine fx_in (L := 20) ha (by omega) (br_f (by decide) ⟨hva, ?_⟩)
    rw [hca]
    by_cases ea : pe a = -1
    · refine nm_e (br_t ea ?_)
      unfold wpY_unlink
      refine fy_pl ha (br_t rfl ⟨hva, ?_⟩)
      rw [hca]
      exact nm_e (br_f (fw_no ea).1 ⟨rfl, I'⟩)
    · obtain ⟨c, hc, ec⟩ := fb_pe_on hpe ha ea
      have hvc : vp_in (nI c) 20 := vp_in_nI hc (by omega)
      refine nm_r ec (br_f (fw_m1 (by omega)) ⟨hva, nm_e ⟨hvc, nm_e ?_⟩⟩)
      unfold wpY_unlink
      refine fy_pl ha (br_t rfl ⟨hva, ?_⟩)
      rw [hca]
      exact nm_r ec (br_t (nI_pos' (by omega)) ⟨hva, nm_e ⟨hvc, nm_e ⟨rfl, fb_mk (fb_pok_u hpe) hax hsg hpk htab⟩⟩⟩)
theorem i_vc_linked {k : Nat} {u : SX} {v : SY} (I : i_Rel k u v) (hk : k + 5 ≤ 2560) (v1 : Int32) : wpX_linked (fun r => wpY_linked (fun r' => r' = r ∧ i_Rel (k + 5) u v) v v1) u v1 := by
  obtain ⟨pe, st, pl, hd, tr, ls, rm, ra, rc, tX, ls', rm', ra', rc', tY, ax, sg, tt, τ, oP, oH, sn, rfl, rfl, hpe, hax, hsg, hpk, htab⟩ := I
  have I' := fb_mk (k := k + 5) (oP := oP) (oH := oH) (sn := sn) hpe hax hsg hpk htab
  unfold wpX_linked
  rcases fw_ix v1 (n := 20) (by omega) with h1 | ⟨a, ha, rfl⟩
  · refine fx_out (L := 20) h1 (br_t rfl ?_)
    unfold wpY_linked
    exact fy_plb h1 (br_f (by decide) ⟨rfl, I'⟩)
  · have hva : vp_in (nI a) 20 := vp_in_nI ha (by omega)
    have hca : (nI a).toNatClampNeg = a := nI_clamp (by omega)
    refine fx_in (L := 20) ha (by omega) (br_f (by decide) ⟨hva, ?_⟩)
    rw [hca]
    by_cases ea : pe a = -1
    · refine br_t ea ?_
      unfold wpY_linked
      refine fy_pl ha (br_t rfl ⟨hva, ?_⟩)
      rw [hca]
      exact br_f (fw_no ea).1 ⟨rfl, I'⟩
    · obtain ⟨c, hc, ec⟩ := fb_pe_on hpe ha ea
      refine br_f ea ⟨hva, ?_⟩
      unfold wpY_linked
      refine fy_pl ha (br_t rfl ⟨hva, ?_⟩)
      rw [hca]
      exact br_t (by rw [ec]; exact nI_pos' (by omega)) ⟨hva, rfl, I'⟩
theorem fb_side {ls rm ra rc lsn rmn ran rcn : Nat → Int32} {t0 s n : Nat} {T : fb_Tab} {gm ga gc : Nat → Nat} (R : fb_rep ls rm ra rc t0 T) (hs5 : s < 5) (hn : n ≤ 6)
    (hs : lsn (5 * t0 + s) = nI n) (fl : ∀ q, q ≠ 5 * t0 + s → lsn q = ls q)
    (r1 : fb_row rmn (6 * (5 * t0 + s)) n gm 4096) (r2 : fb_row ran (6 * (5 * t0 + s)) n ga 6) (r3 : fb_row rcn (6 * (5 * t0 + s)) n gc 4096)
    (f1 : ∀ q, (q < 6 * (5 * t0 + s) ∨ 6 * (5 * t0 + s) + 6 ≤ q) → rmn q = rm q) (f2 : ∀ q, (q < 6 * (5 * t0 + s) ∨ 6 * (5 * t0 + s) + 6 ≤ q) → ran q = ra q)
    (f3 : ∀ q, (q < 6 * (5 * t0 + s) ∨ 6 * (5 * t0 + s) + 6 ≤ q) → rcn q = rc q) :
    fb_rep lsn rmn ran rcn t0 (fb_tset T s n gm ga gc) ∧ ∀ t T', t ≠ t0 → fb_rep ls rm ra rc t T' → fb_rep lsn rmn ran rcn t T' :=
  ⟨fb_rep_set R hn hs fl r1 r2 r3 f1 f2 f3, fun _ _ hne R' => fb_rep_setn R' hne hs5 fl f1 f2 f3⟩
theorem fb_kept_lt {st pl hd tr tX tY : Nat → Int32} {tt sg : Nat → Nat} {ax t : Nat} (hpk : fb_pkok st pl hd tr tX tY tt sg) (hax : ax < 3) (h : fb_kept st tt ax t) : t = 3 ∨ t < 3 := by
  rcases h with h | h | h
  · exact Or.inl h
  · exact Or.inr (by omega)
  · exact Or.inr (fb_us_used hpk h).1
theorem fb_tabs_st {ls rm ra rc ls' rm' ra' rc' lsn rmn ran rcn lsm rmm ram rcm st pl hd tr tX tY : Nat → Int32} {ax : Nat} {sg tt : Nat → Nat} {τ : Nat → fb_Tab} {T' : fb_Tab}
    (htab : fb_tabs ls rm ra rc ls' rm' ra' rc' st ax sg tt τ) (hsg : fb_perm sg) (hax : ax < 3) (hpk : fb_pkok st pl hd tr tX tY tt sg)
    (hX : fb_rep lsn rmn ran rcn 3 T' ∧ ∀ t T, t ≠ 3 → fb_rep ls rm ra rc t T → fb_rep lsn rmn ran rcn t T)
    (hY : fb_rep lsm rmm ram rcm 0 T' ∧ ∀ t T, t ≠ 0 → fb_rep ls' rm' ra' rc' t T → fb_rep lsm rmm ram rcm t T) :
    fb_tabs lsn rmn ran rcn lsm rmm ram rcm st ax sg tt (fun t => if t = 3 then T' else τ t) := by
  intro t ht
  dsimp only
  rcases fb_kept_lt hpk hax ht with e | e
  · subst e
    rw [if_pos rfl, hsg.1]
    exact ⟨hX.1, hY.1⟩
  · rw [if_neg (by omega)]
    have h := htab t ht
    have r := hsg.2.1 t e
    exact ⟨hX.2 t _ (by omega) h.1, hY.2 (sg t) _ (by omega) h.2⟩
theorem i_vc_rules {k : Nat} {u : SX} {v : SY} (I : i_Rel k u v) (hk : k + 5 ≤ 2560) (v1 : Int32) : wpX_rules (fun r => wpY_rules (fun r' => r' = r ∧ i_Rel (k + 5) u v) v v1) u v1 := by
  obtain ⟨pe, st, pl, hd, tr, ls, rm, ra, rc, tX, ls', rm', ra', rc', tY, ax, sg, tt, τ, oP, oH, sn, rfl, rfl, hpe, hax, hsg, hpk, htab⟩ := I
  have I' := fb_mk (k := k + 5) (oP := oP) (oH := oH) (sn := sn) hpe hax hsg hpk htab
  obtain ⟨RX, RY⟩ := fb_0R hsg htab
  unfold wpX_rules
  rcases fw_ix v1 (n := 5) (by omega) with h1 | ⟨s, hs, rfl⟩
  · refine fx_out (L := 5) h1 (br_t rfl ?_)
    unfold wpY_rules
    rcases h1 with h | h
    · exact br_t h ⟨rfl, I'⟩
    · obtain ⟨a, b, c⟩ := fw_big h (b := 4) (by omega) (by omega)
      exact br_f c (br_f a ⟨rfl, I'⟩)
  · have hX := (RX s hs).2.1
    obtain ⟨_, hY⟩ := fb_rep0 RY hs
    refine fx_in (L := 5) hs (by omega) (br_f (by decide) (fx_lo 3 s rfl rfl ⟨vp_in_nI (by omega) (by omega), ?_⟩))
    rw [nI_clamp (by omega), hX]
    unfold wpY_rules
    refine br_f (nI_pos (by omega)) (br_t (nI_le (b := 4) (by omega) (by omega)) ⟨vp_in_nI (by omega) (by omega), ?_, I'⟩)
    rw [nI_clamp (by omega)]
    exact hY
