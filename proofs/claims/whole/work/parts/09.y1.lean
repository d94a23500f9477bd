/-! Y's walks: numbers, rules put and shifted, tables copied -/
section
variable {fB oP oH sn : Int32} {pe ls rm ra rc st pl hd tY tr : Nat → Int32}
theorem fy_pl {post : Int32 → Prop} {n : Nat} (h : n < 20) (hp : post 0) : wpY_badPlace post (fB, oP, oH, sn, pe, ls, rm, ra, rc, st, pl, hd, tY, tr) (nI n) := by
  unfold wpY_badPlace
  exact br_f (nI_pos (by omega)) (br_t (nI_le (b := 19) (by omega) (by omega)) hp)
theorem fy_plb {post : Int32 → Prop} {x : Int32} (h : x < 0 ∨ nI 20 ≤ x) (hp : post 1) : wpY_badPlace post (fB, oP, oH, sn, pe, ls, rm, ra, rc, st, pl, hd, tY, tr) x := by
  unfold wpY_badPlace
  rcases h with h | h
  · exact br_t h hp
  · obtain ⟨a, b, c⟩ := fw_big h (b := 19) (by omega) (by omega)
    exact br_f c (br_f a hp)
theorem fy_by {post : Int32 → Prop} {n : Nat} (h : n < 64) (hp : post 0) : wpY_badByte post (fB, oP, oH, sn, pe, ls, rm, ra, rc, st, pl, hd, tY, tr) (nI n) := by
  unfold wpY_badByte
  exact br_f (nI_pos (by omega)) (br_t (nI_le (b := 63) (by omega) (by omega)) hp)
theorem fy_byb {post : Int32 → Prop} {x : Int32} (h : x < 0 ∨ nI 64 ≤ x) (hp : post 1) : wpY_badByte post (fB, oP, oH, sn, pe, ls, rm, ra, rc, st, pl, hd, tY, tr) x := by
  unfold wpY_badByte
  rcases h with h | h
  · exact br_t h hp
  · obtain ⟨a, b, c⟩ := fw_big h (b := 63) (by omega) (by omega)
    exact br_f c (br_f a hp)
theorem fy_fr {post : Int32 → Prop} {n : Nat} (h : n < 40) (hp : post 0) : wpY_badFrom post (fB, oP, oH, sn, pe, ls, rm, ra, rc, st, pl, hd, tY, tr) (nI n) := by
  unfold wpY_badFrom
  exact br_f (nI_pos (by omega)) (br_t (nI_le (b := 39) (by omega) (by omega)) hp)
theorem fy_frb {post : Int32 → Prop} {x : Int32} (h : x < 0 ∨ nI 40 ≤ x) (hp : post 1) : wpY_badFrom post (fB, oP, oH, sn, pe, ls, rm, ra, rc, st, pl, hd, tY, tr) x := by
  unfold wpY_badFrom
  rcases h with h | h
  · exact br_t h hp
  · obtain ⟨a, b, c⟩ := fw_big h (b := 39) (by omega) (by omega)
    exact br_f c (br_f a hp)
theorem fb_rep0 {ls rm ra rc : Nat → Int32} {T : fb_Tab} {s : Nat} (R : fb_rep ls rm ra rc 0 T) (hs : s < 5) : T.1 s ≤ 6 ∧ ls s = nI (T.1 s) := by
  obtain ⟨h6, hl, _⟩ := R s hs
  rw [show 5 * 0 + s = s by omega] at hl
  exact ⟨h6, hl⟩
theorem fy_nr {post : Int32 → Prop} {s i : Nat} {T : fb_Tab} (R : fb_rep ls rm ra rc 0 T) (hs : s < 5) (hi : i < T.1 s) (hp : post 0) : wpY_noRule post (fB, oP, oH, sn, pe, ls, rm, ra, rc, st, pl, hd, tY, tr) (nI s) (nI i) := by
  obtain ⟨h6, hl⟩ := fb_rep0 R hs
  unfold wpY_noRule
  refine br_f (nI_pos (by omega)) (br_f (nI_nlt (a := 4) (by omega) (by omega)) (br_f (nI_pos (by omega)) ⟨vp_in_nI (by omega) (by omega), br_t ?_ hp⟩))
  rw [nI_clamp (by omega), hl]
  exact nI_lt hi (by omega)
theorem fy_nr_s {post : Int32 → Prop} {x y : Int32} (h : x < 0 ∨ nI 5 ≤ x) (hp : post 1) : wpY_noRule post (fB, oP, oH, sn, pe, ls, rm, ra, rc, st, pl, hd, tY, tr) x y := by
  unfold wpY_noRule
  rcases h with h | h
  · exact br_t h hp
  · obtain ⟨a, b, c⟩ := fw_big h (b := 4) (by omega) (by omega)
    exact br_f c (br_t b hp)
theorem fy_nr_i {post : Int32 → Prop} {s : Nat} {y : Int32} {T : fb_Tab} (R : fb_rep ls rm ra rc 0 T) (hs : s < 5) (h : y < 0 ∨ nI (T.1 s) ≤ y) (hp : post 1) : wpY_noRule post (fB, oP, oH, sn, pe, ls, rm, ra, rc, st, pl, hd, tY, tr) (nI s) y := by
  obtain ⟨h6, hl⟩ := fb_rep0 R hs
  unfold wpY_noRule
  refine br_f (nI_pos (by omega)) (br_f (nI_nlt (a := 4) (by omega) (by omega)) ?_)
  by_cases h0 : y < 0
  · exact br_t h0 hp
  · refine br_f h0 ⟨vp_in_nI (by omega) (by omega), br_f ?_ hp⟩
    rw [nI_clamp (by omega), hl]
    rcases h with h | h
    · exact absurd h h0
    · exact Int32.not_lt.mpr h
theorem fy_put {post : SY → Prop} {x y z w : Int32} (q : Nat) (ew : w = nI q) (hq : q < 120) (hp : post (fB, oP, oH, sn, pe, ls, upd rm q x, upd ra q y, upd rc q z, st, pl, hd, tY, tr)) : wpY_put post (fB, oP, oH, sn, pe, ls, rm, ra, rc, st, pl, hd, tY, tr) w x y z := by
  subst ew
  have hc : (nI q).toNatClampNeg = q := nI_clamp (by omega)
  have hv : vp_in (nI q) 120 := vp_in_nI hq (by omega)
  unfold wpY_put
  refine ⟨hv, nm_r (e' := upd rm q x) (by rw [hc]) ⟨hv, nm_r (e' := upd ra q y) (by rw [hc]) ⟨hv, nm_r (e' := upd rc q z) (by rw [hc]) hp⟩⟩⟩
theorem fy_d18 {post : Int32 → SY → Prop} {s M I : Nat} (hs : s < 5) (hM : M < 6) (hl : ls s = nI (M + 1))
    (hp : post (nI M) (fB, oP, oH, sn, pe, upd ls s (nI M), fb_up I (6 * s + M) rm, fb_up I (6 * s + M) ra, fb_up I (6 * s + M) rc, st, pl, hd, tY, tr)) :
    ∀ d K, K + d = 6 * s + M → I ≤ K → ∀ n, d < n → wY_drop_18 post (nI s) n (nI K) fB oP oH sn pe ls (fb_up I K rm) (fb_up I K ra) (fb_up I K rc) st pl hd tY tr := by
  have hv : vp_in (nI s) 20 := vp_in_nI (by omega) (by omega)
  have hc : (nI s).toNatClampNeg = s := nI_clamp (by omega)
  have eL : (6 : Int32) * nI s + nI (M + 1) - 1 = nI (6 * s + M) := by
    rw [show (6 : Int32) = nI 6 from rfl, pk_mul, nI_add, ← Nat.add_assoc, nI_pred]
  intro d
  induction d with
  | zero =>
    intro K hK hIK n hn
    obtain ⟨m, rfl⟩ : ∃ m, n = m + 1 := ⟨n - 1, by omega⟩
    obtain rfl : K = 6 * s + M := hK
    refine And.intro hv (br_t ?_ ⟨hv, hv, nm_r (e' := upd ls s (nI M)) ?_ ⟨hv, ?_⟩⟩)
    · rw [hc, hl, eL]
      exact nI_le (Nat.le_refl _) (by omega)
    · rw [hc, hl, nI_pred]
    · rw [hc, pk_us]
      exact hp
  | succ d ih =>
    intro K hK hIK n hn
    obtain ⟨m, rfl⟩ : ∃ m, n = m + 1 := ⟨n - 1, by omega⟩
    have hv1 : vp_in (nI K + 1) 120 := by rw [nI_1]; exact vp_in_nI (by omega) (by omega)
    have hc1 : (nI K + 1).toNatClampNeg = K + 1 := by rw [nI_1]; exact nI_clamp (by omega)
    refine And.intro hv (br_f ?_ ⟨hv1, hv1, hv1, ?_⟩)
    · rw [hc, hl, eL]
      exact nI_ge (by omega) (by omega)
    · rw [hc1]
      refine fy_put K rfl (by omega) (nm_r (nI_1 K) ?_)
      have r := ih (K + 1) (by omega) (by omega) m (by omega)
      rw [← fb_up_s hIK rm, ← fb_up_s hIK ra, ← fb_up_s hIK rc] at r
      exact r
theorem fy_drop {post : Int32 → SY → Prop} {s i M : Nat} {T : fb_Tab} (R : fb_rep ls rm ra rc 0 T) (hs : s < 5) (hi : i < T.1 s) (hM : M + 1 = T.1 s)
    (hp : post (nI M) (fB, oP, oH, sn, pe, upd ls s (nI M), fb_up (6 * s + i) (6 * s + M) rm, fb_up (6 * s + i) (6 * s + M) ra, fb_up (6 * s + i) (6 * s + M) rc, st, pl, hd, tY, tr)) : wpY_drop post (fB, oP, oH, sn, pe, ls, rm, ra, rc, st, pl, hd, tY, tr) (nI s) (nI i) := by
  obtain ⟨h6, hl⟩ := fb_rep0 R hs
  rw [← hM] at hl
  unfold wpY_drop
  refine fy_nr R hs hi (br_t rfl (nm_r (e' := nI (6 * s + i)) ?_ ?_))
  · rw [show (6 : Int32) = nI 6 from rfl, pk_mul, nI_add]
  · have r := fy_d18 hs (by omega) hl hp (M - i) (6 * s + i) (by omega) (Nat.le_refl _) (M - i + 1) (by omega)
    rw [fb_up_0 (Nat.le_refl _), fb_up_0 (Nat.le_refl _), fb_up_0 (Nat.le_refl _)] at r
    exact ⟨_, r⟩
theorem fy_m75 {post : Int32 → SY → Prop} {x y z : Int32} {s j L : Nat} (hs : s < 5) (hj : 6 * s + j ≤ L) (hL : L < 6 * s + 6)
    (hp : post 0 (fB, oP, oH, sn, pe, upd ls s (ls s + 1), upd (fb_dn (6 * s + j) L rm) (6 * s + j) x, upd (fb_dn (6 * s + j) L ra) (6 * s + j) y, upd (fb_dn (6 * s + j) L rc) (6 * s + j) z, st, pl, hd, tY, tr)) :
    ∀ d K, K = 6 * s + j + d → K ≤ L → ∀ n, d < n → wY_move_75 post (nI s) (nI j) x y z n (nI K) fB oP oH sn pe ls (fb_dn K L rm) (fb_dn K L ra) (fb_dn K L rc) st pl hd tY tr := by
  have hv : vp_in (nI s) 20 := vp_in_nI (by omega) (by omega)
  have hc : (nI s).toNatClampNeg = s := nI_clamp (by omega)
  have eJ : (6 : Int32) * nI s + nI j = nI (6 * s + j) := by
    rw [show (6 : Int32) = nI 6 from rfl, pk_mul, nI_add]
  intro d
  induction d with
  | zero =>
    intro K hK hKL n hn
    obtain ⟨m, rfl⟩ : ∃ m, n = m + 1 := ⟨n - 1, by omega⟩
    obtain rfl : K = 6 * s + j := hK
    refine br_t ?_ (fy_put (6 * s + j) eJ (by omega) ⟨hv, hv, nm_r (e' := upd ls s (ls s + 1)) (by rw [hc]) hp⟩)
    rw [eJ]
    exact nI_le (Nat.le_refl _) (by omega)
  | succ d ih =>
    intro K hK hKL n hn
    obtain ⟨m, rfl⟩ : ∃ m, n = m + 1 := ⟨n - 1, by omega⟩
    obtain ⟨K, rfl⟩ : ∃ k', K = k' + 1 := ⟨K - 1, by omega⟩
    have hv1 : vp_in (nI (K + 1) - 1) 120 := by rw [nI_pred]; exact vp_in_nI (by omega) (by omega)
    have hc1 : (nI (K + 1) - 1).toNatClampNeg = K := by rw [nI_pred]; exact nI_clamp (by omega)
    refine br_f ?_ ⟨hv1, hv1, hv1, ?_⟩
    · rw [eJ]
      exact nI_ge (by omega) (by omega)
    · rw [hc1]
      refine fy_put (K + 1) rfl (by omega) (nm_r (pk_m1 K) ?_)
      have r := ih K (by omega) (by omega) m (by omega)
      rw [← fb_dn_s hKL rm, ← fb_dn_s hKL ra, ← fb_dn_s hKL rc] at r
      exact r
theorem fy_move {post : Int32 → SY → Prop} {s i j M : Nat} {T : fb_Tab} (R : fb_rep ls rm ra rc 0 T) (hs : s < 5) (hi : i < T.1 s) (hj : j < T.1 s) (hM : M + 1 = T.1 s)
    (hp : post 0 (fB, oP, oH, sn, pe, upd (upd ls s (nI M)) s (nI (M + 1)), upd (fb_dn (6 * s + j) (6 * s + M) (fb_up (6 * s + i) (6 * s + M) rm)) (6 * s + j) (rm (6 * s + i)), upd (fb_dn (6 * s + j) (6 * s + M) (fb_up (6 * s + i) (6 * s + M) ra)) (6 * s + j) (ra (6 * s + i)), upd (fb_dn (6 * s + j) (6 * s + M) (fb_up (6 * s + i) (6 * s + M) rc)) (6 * s + j) (rc (6 * s + i)), st, pl, hd, tY, tr)) :
    wpY_move post (fB, oP, oH, sn, pe, ls, rm, ra, rc, st, pl, hd, tY, tr) (nI s) (nI i) (nI j) := by
  obtain ⟨h6, hl⟩ := fb_rep0 R hs
  have hv : vp_in (nI (6 * s + i)) 120 := vp_in_nI (by omega) (by omega)
  have hc : (nI (6 * s + i)).toNatClampNeg = 6 * s + i := nI_clamp (by omega)
  have hcs : (nI s).toNatClampNeg = s := nI_clamp (by omega)
  have eI : (6 : Int32) * nI s + nI i = nI (6 * s + i) := by
    rw [show (6 : Int32) = nI 6 from rfl, pk_mul, nI_add]
  have eM : (6 : Int32) * nI s + nI M = nI (6 * s + M) := by
    rw [show (6 : Int32) = nI 6 from rfl, pk_mul, nI_add]
  unfold wpY_move
  refine fy_nr R hs hi (br_t rfl (fy_nr R hs hj (br_t rfl (nm_r eI ?_))))
  rw [hc]
  refine ⟨hv, nm_e ⟨hv, nm_e ⟨hv, nm_e (fy_drop R hs hi hM ⟨vp_in_nI (by omega) (by omega), nm_r (e' := nI (6 * s + M)) ?_ ?_⟩)⟩⟩⟩
  · rw [hcs, pk_us, eM]
  · have r := fy_m75 (fB := fB) (oP := oP) (oH := oH) (sn := sn) (pe := pe) (ls := upd ls s (nI M)) (rm := fb_up (6 * s + i) (6 * s + M) rm) (ra := fb_up (6 * s + i) (6 * s + M) ra) (rc := fb_up (6 * s + i) (6 * s + M) rc)
      (st := st) (pl := pl) (hd := hd) (tY := tY) (tr := tr) (post := post) (x := rm (6 * s + i)) (y := ra (6 * s + i)) (z := rc (6 * s + i)) (s := s) (j := j) (L := 6 * s + M) hs (by omega) (by omega) (by rw [pk_us, nI_1]; exact hp) (M - j) (6 * s + M) (by omega) (Nat.le_refl _) (M - j + 1) (by omega)
    rw [fb_dn_0 (Nat.le_refl _), fb_dn_0 (Nat.le_refl _), fb_dn_0 (Nat.le_refl _)] at r
    exact ⟨_, r⟩
theorem fy_ct35 {post : SY → Prop} {a b : Nat} (ha : a < 4) (hb : b < 4) (hab : a ≠ b)
    (hp : post (fB, oP, oH, sn, pe, ls, fb_cp (30 * a) (30 * b) rm 30, fb_cp (30 * a) (30 * b) ra 30, fb_cp (30 * a) (30 * b) rc 30, st, pl, hd, tY, tr)) :
    ∀ d k, k + d = 30 → ∀ n, d < n → wY_copyTable_35 post (nI a) (nI b) n (nI k) fB oP oH sn pe ls (fb_cp (30 * a) (30 * b) rm k) (fb_cp (30 * a) (30 * b) ra k) (fb_cp (30 * a) (30 * b) rc k) st pl hd tY tr := by
  intro d
  induction d with
  | zero =>
    intro k hk n hn
    obtain ⟨m, rfl⟩ : ∃ m, n = m + 1 := ⟨n - 1, by omega⟩
    obtain rfl : k = 30 := hk
    exact br_t (nI_le (a := 30) (by omega) (by omega)) hp
  | succ d ih =>
    intro k hk n hn
    obtain ⟨m, rfl⟩ : ∃ m, n = m + 1 := ⟨n - 1, by omega⟩
    have e1 : (30 : Int32) * nI a + nI k = nI (30 * a + k) := by rw [show (30 : Int32) = nI 30 from rfl, pk_mul, nI_add]
    have e2 : (30 : Int32) * nI b + nI k = nI (30 * b + k) := by rw [show (30 : Int32) = nI 30 from rfl, pk_mul, nI_add]
    have hv : vp_in (30 * nI a + nI k) 120 := by rw [e1]; exact vp_in_nI (by omega) (by omega)
    have hc : ((30 : Int32) * nI a + nI k).toNatClampNeg = 30 * a + k := by rw [e1]; exact nI_clamp (by omega)
    refine br_f (nI_ge (b := 30) (by omega) (by omega)) ⟨hv, hv, hv, ?_⟩
    rw [hc]
    refine fy_put (30 * b + k) e2 (by omega) (nm_r (nI_1 k) ?_)
    have r := ih (k + 1) (by omega) m (by omega)
    have e3 := fb_cp_s (a := 30 * a) (b := 30 * b) (w := 30) (n := k) rm (by omega) (by omega)
    have e4 := fb_cp_s (a := 30 * a) (b := 30 * b) (w := 30) (n := k) ra (by omega) (by omega)
    have e5 := fb_cp_s (a := 30 * a) (b := 30 * b) (w := 30) (n := k) rc (by omega) (by omega)
    rw [← e3, ← e4, ← e5] at r
    exact r
theorem fy_ct2 {post : SY → Prop} {a b : Nat} (ha : a < 4) (hb : b < 4) (hab : a ≠ b)
    (hp : post (fB, oP, oH, sn, pe, fb_cp (5 * a) (5 * b) ls 5, fb_cp (30 * a) (30 * b) rm 30, fb_cp (30 * a) (30 * b) ra 30, fb_cp (30 * a) (30 * b) rc 30, st, pl, hd, tY, tr)) :
    ∀ d k, k + d = 5 → ∀ n, d < n → wY_copyTable_2 post (nI a) (nI b) fB oP oH sn n (nI k) pe (fb_cp (5 * a) (5 * b) ls k) rm ra rc st pl hd tY tr := by
  intro d
  induction d with
  | zero =>
    intro k hk n hn
    obtain ⟨m, rfl⟩ : ∃ m, n = m + 1 := ⟨n - 1, by omega⟩
    obtain rfl : k = 5 := hk
    have r := fy_ct35 ha hb hab hp 30 0 rfl 31 (by omega)
    rw [fb_cp_0, fb_cp_0, fb_cp_0] at r
    exact br_t (nI_le (a := 5) (by omega) (by omega)) ⟨_, r⟩
  | succ d ih =>
    intro k hk n hn
    obtain ⟨m, rfl⟩ : ∃ m, n = m + 1 := ⟨n - 1, by omega⟩
    have e1 : (5 : Int32) * nI a + nI k = nI (5 * a + k) := by rw [show (5 : Int32) = nI 5 from rfl, pk_mul, nI_add]
    have e2 : (5 : Int32) * nI b + nI k = nI (5 * b + k) := by rw [show (5 : Int32) = nI 5 from rfl, pk_mul, nI_add]
    refine br_f (nI_ge (b := 5) (by omega) (by omega)) ?_
    rw [e1, e2, nI_clamp (by omega), nI_clamp (by omega)]
    refine ⟨vp_in_nI (by omega) (by omega), vp_in_nI (by omega) (by omega), nm_r (fb_cp_s (w := 5) ls (by omega) (by omega)) ?_⟩
    exact nm_r (nI_1 k) (ih (k + 1) (by omega) m (by omega))
theorem fy_ct {post : SY → Prop} {x y : Int32} (a b : Nat) (ex : x = nI a) (ey : y = nI b) (ha : a < 4) (hb : b < 4) (hab : a ≠ b)
    (hp : post (fB, oP, oH, sn, pe, fb_cp (5 * a) (5 * b) ls 5, fb_cp (30 * a) (30 * b) rm 30, fb_cp (30 * a) (30 * b) ra 30, fb_cp (30 * a) (30 * b) rc 30, st, pl, hd, tY, tr)) :
    wpY_copyTable post (fB, oP, oH, sn, pe, ls, rm, ra, rc, st, pl, hd, tY, tr) x y := by
  subst ex ey
  unfold wpY_copyTable
  have r := fy_ct2 ha hb hab hp 5 0 rfl 6 (by omega)
  rw [fb_cp_0] at r
  exact ⟨_, r⟩
end
