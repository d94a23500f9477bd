/-! Y's walks: scans over packets and tables; a tick; the start -/
theorem fb_find_min {f : Nat → Bool} : ∀ {d i j : Nat}, fb_find f d i = some j → ∀ k, i ≤ k → k < j → f k = false := by
  intro d
  induction d with
  | zero => intro i j h; cases h
  | succ d ih =>
    intro i j h k h1 h2
    by_cases hf : f i = true
    · rw [fb_find_t hf] at h
      cases h
      omega
    · rw [fb_find_f hf] at h
      by_cases e : k = i
      · rw [e]; exact Bool.eq_false_iff.mpr hf
      · exact ih h k (by omega) h2
theorem fb_cnt_all {f : Nat → Bool} : ∀ {n : Nat}, (∀ j, j < n → f j = true) → fb_cnt f n = n := by
  intro n
  induction n with
  | zero => intro _; rfl
  | succ n ih =>
    intro h
    rw [fb_cnt_t (h n (by omega)), ih (fun j hj => h j (by omega))]
theorem fb_cnt_lt {f : Nat → Bool} : ∀ {n j : Nat}, j < n → ¬ f j = true → fb_cnt f n < n := by
  intro n
  induction n with
  | zero => intro j h; omega
  | succ n ih =>
    intro j hj hf
    by_cases e : j = n
    · subst e
      rw [fb_cnt_f hf]
      have := fb_cnt_le f j
      omega
    · have r := ih (j := j) (by omega) hf
      by_cases h : f n = true
      · rw [fb_cnt_t h]; omega
      · rw [fb_cnt_f h]; omega
section
variable {fB oP oH sn : Int32} {pe ls rm ra rc st pl hd tY tr tX : Nat → Int32}
theorem fy_us2 {post : Int32 → Prop} {x : Int32} : ∀ d k, k + d = 8 → ((fb_find (fun k => decide (st k = 1 ∧ tY k = x)) d k).isSome = true → post 1) → ((fb_find (fun k => decide (st k = 1 ∧ tY k = x)) d k).isSome = false → post 0) →
    ∀ n, d < n → wY_isUsed_2 post x fB oP oH sn pe ls rm ra rc st pl hd tY tr n (nI k) := by
  intro d
  induction d with
  | zero =>
    intro k hk h1 h0 n hn
    obtain ⟨m, rfl⟩ : ∃ m, n = m + 1 := ⟨n - 1, by omega⟩
    exact br_t (nI_le (a := 8) (by omega) (by omega)) (h0 rfl)
  | succ d ih =>
    intro k hk h1 h0 n hn
    obtain ⟨m, rfl⟩ : ∃ m, n = m + 1 := ⟨n - 1, by omega⟩
    have hv : vp_in (nI k) 8 := vp_in_nI (by omega) (by omega)
    have hc : (nI k).toNatClampNeg = k := nI_clamp (by omega)
    refine br_f (nI_ge (b := 8) (by omega) (by omega)) ⟨hv, ?_⟩
    rw [hc]
    by_cases hs : st k = 1
    · refine br_t hs ⟨hv, ?_⟩
      by_cases ht : tY k = x
      · exact br_t ht (h1 (by rw [fb_find_t (decide_eq_true ⟨hs, ht⟩)]; rfl))
      · have hf : ¬ decide (st k = 1 ∧ tY k = x) = true := fun z => ht (of_decide_eq_true z).2
        rw [fb_find_f hf] at h1 h0
        exact br_f ht (nm_r (nI_1 k) (ih (k + 1) (by omega) h1 h0 m (by omega)))
    · have hf : ¬ decide (st k = 1 ∧ tY k = x) = true := fun z => hs (of_decide_eq_true z).1
      rw [fb_find_f hf] at h1 h0
      exact br_f hs (nm_r (nI_1 k) (ih (k + 1) (by omega) h1 h0 m (by omega)))
theorem fy_us {post : Int32 → Prop} {x : Int32} (h1 : fb_usR st tY x = true → post 1) (h0 : fb_usR st tY x = false → post 0) : wpY_isUsed post (fB, oP, oH, sn, pe, ls, rm, ra, rc, st, pl, hd, tY, tr) x := by
  unfold wpY_isUsed
  exact ⟨9, fy_us2 8 0 rfl h1 h0 9 (by omega)⟩
theorem fy_p73 {post : Int32 → SY → Prop} {y : Nat} (hy : y < 4) (eB : fB = nI y) (f : Nat → Bool) (ef : ∀ t, f t = (decide (t + 1 = y) || fb_usR st tY (nI (t + 1)))) (hp : post (nI (fb_cnt f 3)) (fB, oP, oH, sn, pe, ls, rm, ra, rc, st, pl, hd, tY, tr)) :
    ∀ d k, k + d = 3 → ∀ n, d < n → wY_publish_73 post fB oP oH sn pe ls rm ra rc st pl hd tY tr n (nI (fb_cnt f k)) (nI (k + 1)) := by
  intro d
  induction d with
  | zero =>
    intro k hk n hn
    obtain ⟨m, rfl⟩ : ∃ m, n = m + 1 := ⟨n - 1, by omega⟩
    obtain rfl : k = 3 := hk
    exact br_t (nI_le (a := 4) (by omega) (by omega)) hp
  | succ d ih =>
    intro k hk n hn
    obtain ⟨m, rfl⟩ : ∃ m, n = m + 1 := ⟨n - 1, by omega⟩
    have r := ih (k + 1) (by omega) m (by omega)
    have efk := ef k
    refine br_f (nI_ge (b := 4) (by omega) (by omega)) ?_
    by_cases e : k + 1 = y
    · rw [fb_cnt_t (by rw [efk, decide_eq_true e]; rfl)] at r
      exact br_t (by rw [eB, e]) (nm_r (nI_1 _) (nm_r (nI_1 _) r))
    · rw [decide_eq_false e, Bool.false_or] at efk
      refine br_f (fun z => e ((nI_eq (by omega) (by omega)).mp (z.trans eB))) (fy_us (fun u => ?_) (fun u => ?_))
      · rw [fb_cnt_t (efk.trans u)] at r
        exact br_f (by decide) (nm_r (nI_1 _) (nm_r (nI_1 _) r))
      · rw [fb_cnt_f (by rw [efk, u]; decide)] at r
        exact br_t rfl (nm_r (nI_1 _) r)
theorem fy_p22 {post : Int32 → SY → Prop} {ay : Nat} {w : Nat → Bool} (ew : ∀ t, w t = fb_usR st tY (nI t)) (h1 : 1 ≤ ay) (h3 : ay ≤ 3) (eB : fB = nI ay) (hn : fb_pyl ay w 3 = 0 → post (-4) (fB, oP, oH, sn, pe, ls, rm, ra, rc, st, pl, hd, tY, tr))
    (hp : ∀ y, fb_pyl ay w 3 = y → 1 ≤ y → y ≤ 3 → post (nI (fb_cnt (fun t => decide (t + 1 = y) || w (t + 1)) 3)) (nI y, oP, oH, sn, pe, fb_cp (5 * 0) (5 * y) ls 5, fb_cp (30 * 0) (30 * y) rm 30, fb_cp (30 * 0) (30 * y) ra 30, fb_cp (30 * 0) (30 * y) rc 30, st, pl, hd, tY, tr)) :
    ∀ d k, k + d = 3 → ∀ n, d < n → wY_publish_22 post fB oP oH sn pe ls rm ra rc st pl hd tY tr n (nI (fb_pyl ay w k)) (nI (k + 1)) := by
  intro d
  induction d with
  | zero =>
    intro k hk n hn'
    obtain ⟨m, rfl⟩ : ∃ m, n = m + 1 := ⟨n - 1, by omega⟩
    obtain rfl : k = 3 := hk
    refine br_t (nI_le (a := 4) (by omega) (by omega)) ?_
    rcases fb_pyl_c (w := w) h1 h3 3 (by omega) with r | ⟨r1, r3, _⟩
    · exact br_t (by rw [r.1]; rfl) (hn r.1)
    · refine br_f (nI_ne0 (by omega) (by omega)) (fy_ct 0 (fb_pyl ay w 3) rfl rfl (by omega) (by omega) (by omega) ⟨4, ?_⟩)
      exact fy_p73 (by omega) rfl _ (fun t => by rw [ew]) (hp _ rfl r1 r3) 3 0 rfl 4 (by omega)
  | succ d ih =>
    intro k hk n hn'
    obtain ⟨m, rfl⟩ : ∃ m, n = m + 1 := ⟨n - 1, by omega⟩
    have r := ih (k + 1) (by omega) m (by omega)
    refine br_f (nI_ge (b := 4) (by omega) (by omega)) ?_
    by_cases e : k + 1 = ay
    · rw [fb_pyl, if_neg (fun z => z.1 e)] at r
      exact br_t (by rw [eB, e]) (nm_r (nI_1 _) r)
    · refine br_f (fun z => e ((nI_eq (by omega) (by omega)).mp (z.trans eB))) (fy_us (fun u => ?_) (fun u => ?_))
      · rw [← ew] at u
        rw [fb_pyl, if_neg (fun z => by rw [u] at z; cases z.2)] at r
        exact br_f (by decide) (nm_r (nI_1 _) r)
      · rw [← ew] at u
        rw [fb_pyl, if_pos ⟨e, u⟩] at r
        exact br_t rfl (nm_r (nI_1 _) r)
theorem fy_publish {post : Int32 → SY → Prop} {ay : Nat} {w : Nat → Bool} (ew : ∀ t, w t = fb_usR st tY (nI t)) (h1 : 1 ≤ ay) (h3 : ay ≤ 3) (eB : fB = nI ay) (hn : fb_pyl ay w 3 = 0 → post (-4) (fB, oP, oH, sn, pe, ls, rm, ra, rc, st, pl, hd, tY, tr))
    (hp : ∀ y, fb_pyl ay w 3 = y → 1 ≤ y → y ≤ 3 → post (nI (fb_cnt (fun t => decide (t + 1 = y) || w (t + 1)) 3)) (nI y, oP, oH, sn, pe, fb_cp (5 * 0) (5 * y) ls 5, fb_cp (30 * 0) (30 * y) rm 30, fb_cp (30 * 0) (30 * y) ra 30, fb_cp (30 * 0) (30 * y) rc 30, st, pl, hd, tY, tr)) :
    wpY_publish post (fB, oP, oH, sn, pe, ls, rm, ra, rc, st, pl, hd, tY, tr) := by
  have r := fy_p22 ew h1 h3 eB hn hp 3 0 rfl 4 (by omega)
  unfold wpY_publish
  refine fy_us (fun u => ?_) (fun u => ?_)
  · rw [eB, ← ew] at u
    rw [fb_pyl, if_pos u] at r
    exact br_f (by decide) ⟨_, r⟩
  · rw [eB, ← ew] at u
    rw [fb_pyl, if_neg (by rw [u]; decide), ← eB] at r
    exact br_t rfl ⟨_, r⟩
theorem fy_if4 {post : Int32 → Prop} (hp : post (nI (fb_cnt (fun k => decide (st k = 1)) 8))) : ∀ d k, k + d = 8 → ∀ n, d < n → wY_inFlight_4 post fB oP oH sn pe ls rm ra rc st pl hd tY tr n (nI (fb_cnt (fun k => decide (st k = 1)) k)) (nI k) := by
  intro d
  induction d with
  | zero =>
    intro k hk n hn
    obtain ⟨m, rfl⟩ : ∃ m, n = m + 1 := ⟨n - 1, by omega⟩
    obtain rfl : k = 8 := hk
    exact br_t (nI_le (a := 8) (by omega) (by omega)) hp
  | succ d ih =>
    intro k hk n hn
    obtain ⟨m, rfl⟩ : ∃ m, n = m + 1 := ⟨n - 1, by omega⟩
    have r := ih (k + 1) (by omega) m (by omega)
    refine br_f (nI_ge (b := 8) (by omega) (by omega)) ⟨vp_in_nI (by omega) (by omega), ?_⟩
    rw [nI_clamp (by omega)]
    by_cases e : st k = 1
    · rw [fb_cnt_t (decide_eq_true e)] at r
      exact br_t e (nm_r (nI_1 _) (nm_r (nI_1 k) r))
    · rw [fb_cnt_f (fun z => e (of_decide_eq_true z))] at r
      exact br_f e (nm_r (nI_1 k) r)
theorem fy_if {post : Int32 → Prop} (hp : post (nI (fb_cnt (fun k => decide (st k = 1)) 8))) : wpY_inFlight post (fB, oP, oH, sn, pe, ls, rm, ra, rc, st, pl, hd, tY, tr) := by
  unfold wpY_inFlight
  exact ⟨9, fy_if4 hp 8 0 rfl 9 (by omega)⟩
theorem fy_s44 {post : Int32 → SY → Prop} {x y : Int32} {j : Nat} (hj : j < 8) (hst : ¬ st j = 1) (hlt : ∀ i, i < j → st i = 1)
    (hp : post (nI j) (fB, oP, oH, sn, pe, ls, rm, ra, rc, upd st j 1, upd pl j x, upd hd j y, upd tY j fB, upd tr j 0)) : ∀ d k, k + d = j → ∀ n, d < n → wY_send_44 post x y fB oP oH sn pe ls rm ra rc st pl hd tY tr n (nI k) := by
  intro d
  induction d with
  | zero =>
    intro k hk n hn
    obtain ⟨m, rfl⟩ : ∃ m, n = m + 1 := ⟨n - 1, by omega⟩
    obtain rfl : k = j := hk
    have hv : vp_in (nI k) 8 := vp_in_nI (by omega) (by omega)
    have hc : (nI k).toNatClampNeg = k := nI_clamp (by omega)
    refine And.intro hv ?_
    rw [hc]
    exact br_f hst ⟨hv, nm_e ⟨hv, nm_e ⟨hv, nm_e ⟨hv, nm_e ⟨hv, nm_e hp⟩⟩⟩⟩⟩
  | succ d ih =>
    intro k hk n hn
    obtain ⟨m, rfl⟩ : ∃ m, n = m + 1 := ⟨n - 1, by omega⟩
    have hv : vp_in (nI k) 8 := vp_in_nI (by omega) (by omega)
    have hc : (nI k).toNatClampNeg = k := nI_clamp (by omega)
    refine And.intro hv ?_
    rw [hc]
    exact br_t (hlt k (by omega)) (nm_r (nI_1 k) (ih (k + 1) (by omega) m (by omega)))
theorem fy_adv {post : SY → Prop} {τ : Nat → fb_Tab} {tt sg : Nat → Nat} {k p h m : Nat} (hk : k < 8) (hp20 : p < 20) (ep : pl k = nI p) (hh : h < 64) (eh : hd k = nI h) (hm : m < 16) (em : tr k = nI m) (ht : sg (tt k) < 4) (et : tY k = nI (sg (tt k)))
    (R : fb_rep ls rm ra rc (sg (tt k)) (τ (tt k))) (hpe : fb_pok pe) {Q : fb_Q} (eQ : Q = fb_pk τ pe tt k (st, pl, hd, tr)) (hp : ∀ oP oH : Int32, post (fB, oP, oH, sn, pe, ls, rm, ra, rc, Q.1, Q.2.1, Q.2.2.1, tY, Q.2.2.2)) : wpY_advance post (fB, oP, oH, sn, pe, ls, rm, ra, rc, st, pl, hd, tY, tr) (nI k) := by
  have hv : vp_in (nI k) 8 := vp_in_nI hk (by omega)
  have hc : (nI k).toNatClampNeg = k := nI_clamp (by omega)
  have c1 : (pl k).toNatClampNeg = p := by rw [ep, nI_clamp (by omega)]
  have c2 : (hd k).toNatClampNeg = h := by rw [eh, nI_clamp (by omega)]
  have eg : fb_go (τ (tt k)) (pl k).toNatClampNeg (hd k).toNatClampNeg none = fb_go (τ (tt k)) p h none := by rw [c1, c2]
  have h6 := (R (p / 4) (by omega)).1
  unfold wpY_advance
  rw [hc]
  refine ⟨hv, hv, hv, fy_treat (sg (tt k)) p h et ep eh (but := none) R ht hp20 hh (fb_but0 (by omega)) ⟨hv, hv, nm_e ?_⟩⟩
  cases hg : fb_go (τ (tt k)) p h none with
  | none =>
    rw [fb_pk_n (q := (st, pl, hd, tr)) (eg.trans hg)] at eQ
    subst eQ
    exact br_f (c := 0 ≤ fb_o1 none) (by decide) ⟨hv, nm_e (hp _ _)⟩
  | some x =>
    obtain ⟨ho, hh'⟩ := fb_go_lt (fb_rep_ok R) hp20 hh hg
    have hcl : (fb_o1 (some x)).toNatClampNeg = x.1 := nI_clamp (by omega)
    refine br_t (c := 0 ≤ fb_o1 (some x)) (nI_pos' (by omega)) ⟨hv, nm_e ⟨vp_in_nI ho (by omega), ?_⟩⟩
    rw [hcl]
    by_cases hno : pe x.1 = -1
    · rw [fb_pk_d (q := (st, pl, hd, tr)) (eg.trans hg) hno] at eQ
      subst eQ
      exact br_f (by rw [hno]; decide) ⟨hv, nm_e ⟨hv, nm_e (hp _ _)⟩⟩
    · obtain ⟨b, hb, eb⟩ := fb_pe_on hpe ho hno
      refine br_t (by rw [eb]; exact nI_pos' (by omega)) ⟨vp_in_nI ho (by omega), hv, nm_e ⟨hv, ?_⟩⟩
      rw [pk_us, em, nI_1]
      by_cases h15 : m = 15
      · have e15 : tr k = 15 := by rw [em, h15]; rfl
        rw [fb_pk_l (q := (st, pl, hd, tr)) (eg.trans hg) hno e15] at eQ
        subst eQ
        refine br_t (by rw [h15]; rfl) ⟨hv, nm_e ?_⟩
        dsimp only at hp
        rw [em, nI_1] at hp
        exact hp _ _
      · have e15 : ¬ tr k = 15 := fun z => h15 ((nI_eq (b := 15) (by omega) (by omega)).mp (em.symm.trans z))
        rw [fb_pk_g (q := (st, pl, hd, tr)) (eg.trans hg) hno e15] at eQ
        subst eQ
        refine br_f (fun z => h15 ?_) ?_
        · have := (nI_eq (b := 16) (by omega) (by omega)).mp z
          omega
        · dsimp only at hp
          rw [em, nI_1] at hp
          exact hp _ _
theorem fy_t2 {post : Int32 → SY → Prop} {τ : Nat → fb_Tab} {tt sg : Nat → Nat} {q : fb_Q} (hpe : fb_pok pe) (hR : ∀ k, k < 8 → q.1 k = 1 → sg (tt k) < 4 ∧ fb_rep ls rm ra rc (sg (tt k)) (τ (tt k)))
    (h : fb_pkok q.1 q.2.1 q.2.2.1 q.2.2.2 tX tY tt sg)
    (hp : ∀ oP oH : Int32, post (nI (fb_fl (fb_tk τ pe tt 8 q) 8)) (fB, oP, oH, sn, pe, ls, rm, ra, rc, (fb_tk τ pe tt 8 q).1, (fb_tk τ pe tt 8 q).2.1, (fb_tk τ pe tt 8 q).2.2.1, tY, (fb_tk τ pe tt 8 q).2.2.2)) :
    ∀ d k, k + d = 8 → ∀ oP oH : Int32, ∀ n, d < n → wY_tick_2 post n (nI k) fB oP oH sn pe ls rm ra rc ((fb_tk τ pe tt k q).1) ((fb_tk τ pe tt k q).2.1) ((fb_tk τ pe tt k q).2.2.1) tY ((fb_tk τ pe tt k q).2.2.2) := by
  intro d
  induction d with
  | zero =>
    intro k hk oP oH n hn
    obtain ⟨m, rfl⟩ : ∃ m, n = m + 1 := ⟨n - 1, by omega⟩
    obtain rfl : k = 8 := hk
    exact br_t (nI_le (a := 8) (by omega) (by omega)) (fy_if (hp oP oH))
  | succ d ih =>
    intro k hk oP oH n hn
    obtain ⟨m, rfl⟩ : ∃ m, n = m + 1 := ⟨n - 1, by omega⟩
    have hv : vp_in (nI k) 8 := vp_in_nI (by omega) (by omega)
    have hc : (nI k).toNatClampNeg = k := nI_clamp (by omega)
    have r := fun oP oH => ih (k + 1) (by omega) oP oH m (by omega)
    refine br_f (nI_ge (b := 8) (by omega) (by omega)) ⟨hv, ?_⟩
    rw [hc]
    obtain ⟨ok, hst⟩ := fb_tk_ok (τ := τ) hpe (fun j hj hj1 => fb_rep_ok (hR j hj hj1).2) h k (by omega)
    by_cases e : (fb_tk τ pe tt k q).1 k = 1
    · obtain ⟨⟨p, hp20, ep⟩, ⟨hh, hh64, eh⟩, ⟨mm, hm, em⟩, ht, _, et⟩ := ok k (by omega) e
      obtain ⟨ht4, R⟩ := hR k (by omega) (hst k e)
      exact br_t e (fy_adv (τ := τ) (tt := tt) (sg := sg) (by omega) hp20 ep hh64 eh hm em ht4 et R hpe (fb_tk_t e) (fun oP oH => nm_r (nI_1 k) (r oP oH)))
    · rw [fb_tk_f e] at r
      exact br_f e (nm_r (nI_1 k) (r oP oH))
theorem fy_tick {post : Int32 → SY → Prop} {τ : Nat → fb_Tab} {tt sg : Nat → Nat} (hpe : fb_pok pe) (hR : ∀ k, k < 8 → st k = 1 → sg (tt k) < 4 ∧ fb_rep ls rm ra rc (sg (tt k)) (τ (tt k)))
    (h : fb_pkok st pl hd tr tX tY tt sg) (Q : fb_Q) (eQ : fb_tk τ pe tt 8 (st, pl, hd, tr) = Q)
    (hp : ∀ oP oH : Int32, post (nI (fb_fl Q 8)) (fB, oP, oH, sn, pe, ls, rm, ra, rc, Q.1, Q.2.1, Q.2.2.1, tY, Q.2.2.2)) : wpY_tick post (fB, oP, oH, sn, pe, ls, rm, ra, rc, st, pl, hd, tY, tr) := by
  have r := fy_t2 (fB := fB) (sn := sn) (post := post) (q := (st, pl, hd, tr)) hpe hR h (by rw [eQ]; exact hp) 8 0 rfl oP oH 9 (by omega)
  unfold wpY_tick
  exact ⟨9, r⟩
theorem fy_i91 {post : SY → Prop} (hp : post (fB, oP, oH, sn, fb_li 20, ls, rm, ra, rc, st, pl, hd, tY, tr)) : ∀ d k, k + d = 20 → ∀ n, d < n → wY_init_91 post fB oP oH sn n (nI k) (fb_li k) ls rm ra rc st pl hd tY tr := by
  intro d
  induction d with
  | zero =>
    intro k hk n hn
    obtain ⟨m, rfl⟩ : ∃ m, n = m + 1 := ⟨n - 1, by omega⟩
    obtain rfl : k = 20 := hk
    exact br_t (nI_le (a := 20) (by omega) (by omega)) hp
  | succ d ih =>
    intro k hk n hn
    obtain ⟨m, rfl⟩ : ∃ m, n = m + 1 := ⟨n - 1, by omega⟩
    refine br_f (nI_ge (b := 20) (by omega) (by omega)) ⟨vp_in_nI (by omega) (by omega), ?_⟩
    rw [nI_clamp (by omega)]
    exact nm_r (fb_li_s k) (nm_r (nI_1 k) (ih (k + 1) (by omega) m (by omega)))
theorem fy_init {post : SY → Prop} (hp : post (1, 0, 0, 0, fb_li 20, fun _ => 0, fun _ => 0, fun _ => 0, fun _ => 0, fun _ => 0, fun _ => 0, fun _ => 0, fun _ => 0, fun _ => 0)) : wpY_init post := by
  unfold wpY_init
  have r := fy_i91 hp 20 0 rfl 21 (by omega)
  rw [fb_li_0] at r
  exact ⟨_, r⟩
end
