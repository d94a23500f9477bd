/-! X's walks: scans over packets and tables; counts over headers; a tick -/
section
variable {fA : Int32} {pe ls rm ra rc st pl hd tX tr : Nat → Int32}
theorem fx_tp2 {post : Int32 → Prop} {x : Int32} : ∀ d k, k + d = 8 → ((fb_find (fun k => decide (st k = 1 ∧ tX k = x)) d k).isSome = true → post 1) → ((fb_find (fun k => decide (st k = 1 ∧ tX k = x)) d k).isSome = false → post 0) →
    ∀ n, d < n → wX_treatsPackets_2 post x fA pe ls rm ra rc st pl hd tX tr n (nI k) := by
  intro d
  induction d with
  | zero =>
    intro k hk h1 h0 n hn
    obtain ⟨m, rfl⟩ : ∃ m, n = m + 1 := ⟨n - 1, by omega⟩
    exact br_t (nI_le (a := 8) (by omega) (by omega)) (h0 rfl)
  | succ d ih =>
    intro k hk h1 h0 n hn
    obtain ⟨m, rfl⟩ : ∃ m, n = m + 1 := ⟨n - 1, by omega⟩
    have hv : vp_in (nI k) 8 := vp_in_nI (by omega) (by omega)
    have hc : (nI k).toNatClampNeg = k := nI_clamp (by omega)
    refine br_f (nI_ge (b := 8) (by omega) (by omega)) ⟨hv, ?_⟩
    rw [hc]
    by_cases hs : st k = 1
    · refine br_t hs ⟨hv, ?_⟩
      by_cases ht : tX k = x
      · exact br_t ht (h1 (by rw [fb_find_t (decide_eq_true ⟨hs, ht⟩)]; rfl))
      · have hf : ¬ decide (st k = 1 ∧ tX k = x) = true := fun z => ht (of_decide_eq_true z).2
        rw [fb_find_f hf] at h1 h0
        exact br_f ht (nm_r (nI_1 k) (ih (k + 1) (by omega) h1 h0 m (by omega)))
    · have hf : ¬ decide (st k = 1 ∧ tX k = x) = true := fun z => hs (of_decide_eq_true z).1
      rw [fb_find_f hf] at h1 h0
      exact br_f hs (nm_r (nI_1 k) (ih (k + 1) (by omega) h1 h0 m (by omega)))
theorem fx_tp {post : Int32 → Prop} {x : Int32} (h1 : fb_usR st tX x = true → post 1) (h0 : fb_usR st tX x = false → post 0) : wpX_treatsPackets post (fA, pe, ls, rm, ra, rc, st, pl, hd, tX, tr) x := by
  unfold wpX_treatsPackets
  exact ⟨9, fx_tp2 8 0 rfl h1 h0 9 (by omega)⟩
theorem fx_ik {post : Int32 → Prop} {x : Int32} (h1 : (decide (x = fA) || fb_usR st tX x) = true → post 1) (h0 : (decide (x = fA) || fb_usR st tX x) = false → post 0) : wpX_isKept post (fA, pe, ls, rm, ra, rc, st, pl, hd, tX, tr) x := by
  unfold wpX_isKept
  by_cases ha : x = fA
  · exact br_t ha (h1 (by rw [decide_eq_true ha]; rfl))
  · rw [decide_eq_false ha, Bool.false_or] at h1 h0
    exact br_f ha (fx_tp (fun e => br_f (by decide) (h1 e)) (fun e => br_t rfl (h0 e)))
theorem fx_us2 {post : Int32 → Prop} : ∀ d k, k + d = 3 → post (fb_oi (-1) (fb_find (fun t => !(decide (nI t = fA) || fb_usR st tX (nI t))) d k)) → ∀ n, d < n → wX_unkeptSlot_2 post fA pe ls rm ra rc st pl hd tX tr n (nI k) := by
  intro d
  induction d with
  | zero =>
    intro k hk hp n hn
    obtain ⟨m, rfl⟩ : ∃ m, n = m + 1 := ⟨n - 1, by omega⟩
    exact br_t (nI_le (a := 3) (by omega) (by omega)) hp
  | succ d ih =>
    intro k hk hp n hn
    obtain ⟨m, rfl⟩ : ∃ m, n = m + 1 := ⟨n - 1, by omega⟩
    refine br_f (nI_ge (b := 3) (by omega) (by omega)) (fx_ik (fun e => ?_) (fun e => ?_))
    · rw [fb_find_f (by rw [e]; decide)] at hp
      exact br_f (by decide) (nm_r (nI_1 k) (ih (k + 1) (by omega) hp m (by omega)))
    · rw [fb_find_t (by rw [e]; rfl)] at hp
      exact br_t rfl hp
theorem fx_us {post : Int32 → Prop} (hp : post (fb_oi (-1) (fb_find (fun t => !(decide (nI t = fA) || fb_usR st tX (nI t))) 3 0))) : wpX_unkeptSlot post (fA, pe, ls, rm, ra, rc, st, pl, hd, tX, tr) := by
  unfold wpX_unkeptSlot
  exact ⟨4, fx_us2 3 0 rfl hp 4 (by omega)⟩
theorem fx_kt4 {post : Int32 → Prop} (f : Nat → Bool) (ef : ∀ t, f t = (decide (nI t = fA) || fb_usR st tX (nI t))) (hp : post (nI (fb_cnt f 3))) : ∀ d k, k + d = 3 → ∀ n, d < n → wX_keptTables_4 post fA pe ls rm ra rc st pl hd tX tr n (nI (fb_cnt f k)) (nI k) := by
  intro d
  induction d with
  | zero =>
    intro k hk n hn
    obtain ⟨m, rfl⟩ : ∃ m, n = m + 1 := ⟨n - 1, by omega⟩
    obtain rfl : k = 3 := hk
    exact br_t (nI_le (a := 3) (by omega) (by omega)) hp
  | succ d ih =>
    intro k hk n hn
    obtain ⟨m, rfl⟩ : ∃ m, n = m + 1 := ⟨n - 1, by omega⟩
    have r := ih (k + 1) (by omega) m (by omega)
    refine br_f (nI_ge (b := 3) (by omega) (by omega)) (fx_ik (fun e => ?_) (fun e => ?_))
    · rw [← ef] at e
      rw [fb_cnt_t e] at r
      exact br_f (by decide) (nm_r (nI_1 _) (nm_r (nI_1 k) r))
    · rw [← ef] at e
      rw [fb_cnt_f (by rw [e]; decide)] at r
      exact br_t rfl (nm_r (nI_1 k) r)
theorem fx_kt {post : Int32 → Prop} (hp : post (nI (fb_cnt (fun t => decide (nI t = fA) || fb_usR st tX (nI t)) 3))) : wpX_keptTables post (fA, pe, ls, rm, ra, rc, st, pl, hd, tX, tr) := by
  unfold wpX_keptTables
  exact ⟨4, fx_kt4 _ (fun _ => rfl) hp 3 0 rfl 4 (by omega)⟩
theorem fx_lf2 {post : Int32 → Prop} : ∀ d k, k + d = 8 → post (fb_oi (-1) (fb_find (fun k => decide (¬ st k = 1)) d k)) → ∀ n, d < n → wX_leastFreeNumber_2 post fA pe ls rm ra rc st pl hd tX tr n (nI k) := by
  intro d
  induction d with
  | zero =>
    intro k hk hp n hn
    obtain ⟨m, rfl⟩ : ∃ m, n = m + 1 := ⟨n - 1, by omega⟩
    exact br_t (nI_le (a := 8) (by omega) (by omega)) hp
  | succ d ih =>
    intro k hk hp n hn
    obtain ⟨m, rfl⟩ : ∃ m, n = m + 1 := ⟨n - 1, by omega⟩
    have hv : vp_in (nI k) 8 := vp_in_nI (by omega) (by omega)
    have hc : (nI k).toNatClampNeg = k := nI_clamp (by omega)
    refine br_f (nI_ge (b := 8) (by omega) (by omega)) ⟨hv, ?_⟩
    rw [hc]
    by_cases hs : st k = 1
    · rw [fb_find_f (fun z => (of_decide_eq_true z) hs)] at hp
      exact br_t hs (nm_r (nI_1 k) (ih (k + 1) (by omega) hp m (by omega)))
    · rw [fb_find_t (decide_eq_true hs)] at hp
      exact br_f hs hp
theorem fx_lf {post : Int32 → Prop} (hp : post (fb_oi (-1) (fb_find (fun k => decide (¬ st k = 1)) 8 0))) : wpX_leastFreeNumber post (fA, pe, ls, rm, ra, rc, st, pl, hd, tX, tr) := by
  unfold wpX_leastFreeNumber
  exact ⟨9, fx_lf2 8 0 rfl hp 9 (by omega)⟩
def fb_sum (f : Nat → Int32) : Nat → Int32
  | 0 => 0
  | n + 1 => fb_sum f n + f n
theorem fx_rv13 {post : Int32 → SX → Prop} (hp : post (fb_sum (fun s => ls (15 + s)) 5) (fA, pe, ls, rm, ra, rc, st, pl, hd, tX, tr)) : ∀ d k, k + d = 5 → ∀ n, d < n → wX_revert_13 post fA pe ls rm ra rc st pl hd tX tr n (fb_sum (fun s => ls (15 + s)) k) (nI k) := by
  intro d
  induction d with
  | zero =>
    intro k hk n hn
    obtain ⟨m, rfl⟩ : ∃ m, n = m + 1 := ⟨n - 1, by omega⟩
    obtain rfl : k = 5 := hk
    exact br_t (nI_le (a := 5) (by omega) (by omega)) hp
  | succ d ih =>
    intro k hk n hn
    obtain ⟨m, rfl⟩ : ∃ m, n = m + 1 := ⟨n - 1, by omega⟩
    refine br_f (nI_ge (b := 5) (by omega) (by omega)) (fx_lo 3 k rfl rfl ⟨vp_in_nI (by omega) (by omega), ?_⟩)
    rw [nI_clamp (by omega)]
    exact nm_e (nm_r (nI_1 k) (ih (k + 1) (by omega) m (by omega)))
theorem fx_cf5 {post : Int32 → Prop} {x w : Int32} {F : Nat → Int32} (hF : ∀ h, h < 64 → ∀ P : Int32 → Prop, P (F h) → wpX_fate P (fA, pe, ls, rm, ra, rc, st, pl, hd, tX, tr) x (nI h)) (hp : post (nI (fb_cnt (fun h => decide (F h = w)) 64))) :
    ∀ d k, k + d = 64 → ∀ n, d < n → wX_countFates_5 post x w fA pe ls rm ra rc st pl hd tX tr n (nI (fb_cnt (fun h => decide (F h = w)) k)) (nI k) := by
  intro d
  induction d with
  | zero =>
    intro k hk n hn
    obtain ⟨m, rfl⟩ : ∃ m, n = m + 1 := ⟨n - 1, by omega⟩
    obtain rfl : k = 64 := hk
    exact br_t (nI_le (a := 64) (by omega) (by omega)) hp
  | succ d ih =>
    intro k hk n hn
    obtain ⟨m, rfl⟩ : ∃ m, n = m + 1 := ⟨n - 1, by omega⟩
    have r := ih (k + 1) (by omega) m (by omega)
    refine br_f (nI_ge (b := 64) (by omega) (by omega)) (hF k (by omega) _ ?_)
    by_cases e : F k = w
    · rw [fb_cnt_t (decide_eq_true e)] at r
      exact br_t e (nm_r (nI_1 _) (nm_r (nI_1 k) r))
    · rw [fb_cnt_f (fun z => e (of_decide_eq_true z))] at r
      exact br_f e (nm_r (nI_1 k) r)
theorem fx_cf {post : Int32 → Prop} {x w : Int32} {F : Nat → Int32} (hF : ∀ h, h < 64 → ∀ P : Int32 → Prop, P (F h) → wpX_fate P (fA, pe, ls, rm, ra, rc, st, pl, hd, tX, tr) x (nI h)) (hp : post (nI (fb_cnt (fun h => decide (F h = w)) 64))) :
    wpX_countFates post (fA, pe, ls, rm, ra, rc, st, pl, hd, tX, tr) x w := by
  unfold wpX_countFates
  exact ⟨65, fx_cf5 hF hp 64 0 rfl 65 (by omega)⟩
theorem fx_na {post : Int32 → Prop} {x y z : Int32} {F : Nat → Int32} (hF : ∀ h, h < 64 → ∀ P : Int32 → Prop, P (F h) → wpX_fate P (fA, pe, ls, rm, ra, rc, st, pl, hd, tX, tr) x (nI h)) :
    ∀ d k, k + d = 64 → post (fb_oi (-2) (fb_find (fun h => decide (¬ nI h ≤ z ∧ F h = 100 + y)) d k)) → ∀ n, d < n → wX_nextArriving_23 post x y z fA pe ls rm ra rc st pl hd tX tr n (nI k) := by
  intro d
  induction d with
  | zero =>
    intro k hk hp n hn
    obtain ⟨m, rfl⟩ : ∃ m, n = m + 1 := ⟨n - 1, by omega⟩
    exact br_t (nI_le (a := 64) (by omega) (by omega)) hp
  | succ d ih =>
    intro k hk hp n hn
    obtain ⟨m, rfl⟩ : ∃ m, n = m + 1 := ⟨n - 1, by omega⟩
    refine br_f (nI_ge (b := 64) (by omega) (by omega)) ?_
    by_cases hz : nI k ≤ z
    · rw [fb_find_f (fun q => (of_decide_eq_true q).1 hz)] at hp
      exact br_t hz (nm_r (nI_1 k) (ih (k + 1) (by omega) hp m (by omega)))
    · refine br_f hz (hF k (by omega) _ ?_)
      by_cases e : F k = 100 + y
      · rw [fb_find_t (decide_eq_true ⟨hz, e⟩)] at hp
        exact br_t e hp
      · rw [fb_find_f (fun q => e (of_decide_eq_true q).2)] at hp
        exact br_f e (nm_r (nI_1 k) (ih (k + 1) (by omega) hp m (by omega)))
theorem fx_vi {post : Int32 → Prop} {x y : Int32} {G : Nat → Bool} (hG : ∀ h, h < 64 → ∀ P : Int32 → Prop, (G h = true → P 1) → (G h = false → P 0) → wpX_comesTo P (fA, pe, ls, rm, ra, rc, st, pl, hd, tX, tr) x (nI h) y) (hp : post (nI (fb_cnt G 64))) :
    ∀ d k, k + d = 64 → ∀ n, d < n → wX_visiting_24 post x y fA pe ls rm ra rc st pl hd tX tr n (nI (fb_cnt G k)) (nI k) := by
  intro d
  induction d with
  | zero =>
    intro k hk n hn
    obtain ⟨m, rfl⟩ : ∃ m, n = m + 1 := ⟨n - 1, by omega⟩
    obtain rfl : k = 64 := hk
    exact br_t (nI_le (a := 64) (by omega) (by omega)) hp
  | succ d ih =>
    intro k hk n hn
    obtain ⟨m, rfl⟩ : ∃ m, n = m + 1 := ⟨n - 1, by omega⟩
    have r := ih (k + 1) (by omega) m (by omega)
    refine br_f (nI_ge (b := 64) (by omega) (by omega)) (hG k (by omega) _ (fun e => ?_) (fun e => ?_))
    · rw [fb_cnt_t e] at r
      exact br_f (by decide) (nm_r (nI_1 _) (nm_r (nI_1 k) r))
    · rw [fb_cnt_f (by rw [e]; decide)] at r
      exact br_t rfl (nm_r (nI_1 k) r)
theorem fx_di {post : Int32 → Prop} {x : Int32} {F G : Nat → Int32} (hF : ∀ h, h < 64 → ∀ P : Int32 → Prop, P (F h) → wpX_fate P (fA, pe, ls, rm, ra, rc, st, pl, hd, tX, tr) x (nI h)) (hG : ∀ h, h < 64 → ∀ P : Int32 → Prop, P (G h) → wpX_fate P (fA, pe, ls, rm, ra, rc, st, pl, hd, tX, tr) (x + 20) (nI h))
    (hp : post (nI (fb_cnt (fun h => decide (¬ F h = G h)) 64))) :
    ∀ d k, k + d = 64 → ∀ n, d < n → wX_differing_15 post x fA pe ls rm ra rc st pl hd tX tr n (nI (fb_cnt (fun h => decide (¬ F h = G h)) k)) (nI k) := by
  intro d
  induction d with
  | zero =>
    intro k hk n hn
    obtain ⟨m, rfl⟩ : ∃ m, n = m + 1 := ⟨n - 1, by omega⟩
    obtain rfl : k = 64 := hk
    exact br_t (nI_le (a := 64) (by omega) (by omega)) hp
  | succ d ih =>
    intro k hk n hn
    obtain ⟨m, rfl⟩ : ∃ m, n = m + 1 := ⟨n - 1, by omega⟩
    have r := ih (k + 1) (by omega) m (by omega)
    refine br_f (nI_ge (b := 64) (by omega) (by omega)) (hF k (by omega) _ (hG k (by omega) _ ?_))
    by_cases e : F k = G k
    · rw [fb_cnt_f (fun z => (of_decide_eq_true z) e)] at r
      exact br_t e (nm_r (nI_1 k) r)
    · rw [fb_cnt_t (decide_eq_true e)] at r
      exact br_f e (nm_r (nI_1 _) (nm_r (nI_1 k) r))
theorem fx_dg {post : Int32 → Prop} {s i : Nat} {T : fb_Tab} (R : fb_rep ls rm ra rc 3 T) (hs : s < 5) (hi : i < T.1 s) (hp : post (nI (fb_cnt (fun h => decide (fb_first T s h none = some i)) 64))) :
    ∀ d k, k + d = 64 → ∀ n, d < n → wX_deciding_31 post (nI (5 * 3 + s)) (nI (6 * (5 * 3 + s) + i)) fA pe ls rm ra rc st pl hd tX tr n (nI (fb_cnt (fun h => decide (fb_first T s h none = some i)) k)) (nI k) := by
  have h6 := (R s hs).1
  intro d
  induction d with
  | zero =>
    intro k hk n hn
    obtain ⟨m, rfl⟩ : ∃ m, n = m + 1 := ⟨n - 1, by omega⟩
    obtain rfl : k = 64 := hk
    exact br_t (nI_le (a := 64) (by omega) (by omega)) hp
  | succ d ih =>
    intro k hk n hn
    obtain ⟨m, rfl⟩ : ∃ m, n = m + 1 := ⟨n - 1, by omega⟩
    have r := ih (k + 1) (by omega) m (by omega)
    refine br_f (nI_ge (b := 64) (by omega) (by omega)) (fx_dec 3 s k rfl rfl (but := none) R (by omega) hs (fb_but0 (by omega)) (fun hf => ?_) (fun j hj hf => ?_))
    · have hne : ¬ decide (fb_first T s k none = some i) = true := by
        intro z
        have z2 := of_decide_eq_true z
        rw [hf] at z2
        cases z2
      rw [fb_cnt_f hne] at r
      exact br_f (fun z => fw_m1 (by omega) z.symm) (nm_r (nI_1 k) r)
    · by_cases e : j = i
      · subst e
        rw [fb_cnt_t (decide_eq_true hf)] at r
        exact br_t rfl (nm_r (nI_1 _) (nm_r (nI_1 k) r))
      · rw [fb_cnt_f (fun z => e (Option.some.inj (hf.symm.trans (of_decide_eq_true z))))] at r
        refine br_f (fun z => e ?_) (nm_r (nI_1 k) r)
        have := (nI_eq (by omega) (by omega)).mp z
        omega
def fb_nd (T : fb_Tab) (s i c : Nat) : Prop := fb_go T (4 * s + c / 64) (c % 64) none = fb_go T (4 * s + c / 64) (c % 64) (some i)
theorem fx_n34 {post J : Int32 → Prop} {s i p : Nat} {T : fb_Tab} (R : fb_rep ls rm ra rc 3 T) (hs : s < 5) (hi : i < T.1 s) (hp4 : p < 4) :
    ∀ d k, k + d = 64 → ((∃ j, k ≤ j ∧ j < 64 ∧ ¬ fb_nd T s i (64 * p + j)) → post 0) → ((∀ j, k ≤ j → j < 64 → fb_nd T s i (64 * p + j)) → J (nI (p + 1))) →
    ∀ n, d < n → wX_needless_34 post J (nI s) (nI (6 * (5 * 3 + s) + i)) (nI p) fA pe ls rm ra rc st pl hd tX tr n (nI k) := by
  have h6 := (R s hs).1
  intro d
  induction d with
  | zero =>
    intro k hk h0 h1 n hn
    obtain ⟨m, rfl⟩ : ∃ m, n = m + 1 := ⟨n - 1, by omega⟩
    exact br_t (nI_le (a := 64) (by omega) (by omega)) (nm_r (nI_1 p) (h1 (fun j h2 h3 => absurd h2 (by omega))))
  | succ d ih =>
    intro k hk h0 h1 n hn
    obtain ⟨m, rfl⟩ : ∃ m, n = m + 1 := ⟨n - 1, by omega⟩
    have e6 : nI s * 4 + nI p = nI (4 * s + p) := by
      rw [show (4 : Int32) = nI 4 from rfl, pk_mul, nI_add]
      exact congrArg nI (by omega)
    have q : (4 * s + p) / 4 = s := by omega
    have b0 : fb_butI (6 * (5 * 3 + (4 * s + p) / 4)) (T.1 ((4 * s + p) / 4)) none (-1) := by
      rw [q]
      exact fb_but0 (by omega)
    have b1 : fb_butI (6 * (5 * 3 + (4 * s + p) / 4)) (T.1 ((4 * s + p) / 4)) (some i) (nI (6 * (5 * 3 + s) + i)) := by
      rw [q]
      exact fb_but1 (by omega) hi
    have ok := fb_rep_ok R
    have en : fb_nd T s i (64 * p + k) ↔ fb_go T (4 * s + p) k none = fb_go T (4 * s + p) k (some i) := by
      unfold fb_nd
      rw [show (64 * p + k) / 64 = p by omega, show (64 * p + k) % 64 = k by omega]
    refine br_f (nI_ge (b := 64) (by omega) (by omega)) (nm_r e6 (fx_go 3 (4 * s + p) k rfl rfl rfl R (by omega) (by omega) (by omega) b0 (fx_go 3 (4 * s + p) k rfl rfl rfl R (by omega) (by omega) (by omega) b1 ?_)))
    have ei := fb_enc_inj (a := fb_go T (4 * s + p) k none) (b := fb_go T (4 * s + p) k (some i)) (fun x hx => fb_go_lt ok (by omega) (by omega) hx) (fun x hx => fb_go_lt ok (by omega) (by omega) hx)
    by_cases e : fb_nd T s i (64 * p + k)
    · refine br_t (ei.mpr (en.mp e)) (nm_r (nI_1 k) (ih (k + 1) (by omega) (fun ⟨j, a, b, c⟩ => h0 ⟨j, by omega, b, c⟩) (fun h2 => h1 (fun j h3 h4 => ?_)) m (by omega)))
      by_cases ej : j = k
      · rw [ej]; exact e
      · exact h2 j (by omega) h4
    · exact br_f (fun z => e (en.mpr (ei.mp z))) (h0 ⟨k, Nat.le_refl _, by omega, e⟩)
theorem fx_n25 {post : Int32 → Prop} {s i : Nat} {T : fb_Tab} (R : fb_rep ls rm ra rc 3 T) (hs : s < 5) (hi : i < T.1 s) :
    ∀ d p, p + d = 4 → ((∃ c, 64 * p ≤ c ∧ c < 256 ∧ ¬ fb_nd T s i c) → post 0) → ((∀ c, 64 * p ≤ c → c < 256 → fb_nd T s i c) → post 1) →
    ∀ n, d < n → wX_needless_25 post (nI s) (nI (6 * (5 * 3 + s) + i)) fA pe ls rm ra rc st pl hd tX tr n (nI p) := by
  intro d
  induction d with
  | zero =>
    intro p hk h0 h1 n hn
    obtain ⟨m, rfl⟩ : ∃ m, n = m + 1 := ⟨n - 1, by omega⟩
    exact br_t (nI_le (a := 4) (by omega) (by omega)) (h1 (fun c h2 h3 => absurd h2 (by omega)))
  | succ d ih =>
    intro p hk h0 h1 n hn
    obtain ⟨m, rfl⟩ : ∃ m, n = m + 1 := ⟨n - 1, by omega⟩
    refine br_f (nI_ge (b := 4) (by omega) (by omega)) ⟨65, fx_n34 R hs hi (by omega) 64 0 rfl (fun ⟨j, a, b, c⟩ => h0 ⟨64 * p + j, by omega, by omega, c⟩) (fun h2 => ?_) 65 (by omega)⟩
    refine ih (p + 1) (by omega) (fun ⟨j, a, b, c⟩ => h0 ⟨j, by omega, b, c⟩) (fun h3 => h1 (fun c h4 h5 => ?_)) m (by omega)
    by_cases ec : c < 64 * (p + 1)
    · have := h2 (c - 64 * p) (by omega) (by omega)
      rw [show 64 * p + (c - 64 * p) = c by omega] at this
      exact this
    · exact h3 c (by omega) h5
theorem fx_treat {post : SX → Prop} {τ : Nat → fb_Tab} {tt : Nat → Nat} {k p h m : Nat} (hk : k < 8) (hp20 : p < 20) (ep : pl k = nI p) (hh : h < 64) (eh : hd k = nI h) (hm : m < 16) (em : tr k = nI m) (ht : tt k < 4) (et : tX k = nI (tt k))
    (R : fb_rep ls rm ra rc (tt k) (τ (tt k))) (hpe : fb_pok pe) {Q : fb_Q} (eQ : Q = fb_pk τ pe tt k (st, pl, hd, tr)) (hp : post (fA, pe, ls, rm, ra, rc, Q.1, Q.2.1, Q.2.2.1, tX, Q.2.2.2)) : wpX_treatPacket post (fA, pe, ls, rm, ra, rc, st, pl, hd, tX, tr) (nI k) := by
  have hv : vp_in (nI k) 8 := vp_in_nI hk (by omega)
  have hc : (nI k).toNatClampNeg = k := nI_clamp (by omega)
  have c1 : (pl k).toNatClampNeg = p := by rw [ep, nI_clamp (by omega)]
  have c2 : (hd k).toNatClampNeg = h := by rw [eh, nI_clamp (by omega)]
  have eg : fb_go (τ (tt k)) (pl k).toNatClampNeg (hd k).toNatClampNeg none = fb_go (τ (tt k)) p h none := by rw [c1, c2]
  unfold wpX_treatPacket
  rw [hc]
  refine ⟨hv, hv, hv, fx_goc (tt k) p h et ep eh R ht hp20 hh (fun hg => ?_) (fun x hg ho hh' => ?_)⟩
  · rw [fb_pk_n (q := (st, pl, hd, tr)) (eg.trans hg)] at eQ
    subst eQ
    exact ⟨hv, hv, nm_e (br_t rfl ⟨hv, nm_e hp⟩)⟩
  · refine ⟨hv, hv, nm_e (br_f (fw_m1 (by omega)) ⟨by decide, nm_r (fx_div ho hh') ⟨by decide, hv, nm_r (e' := upd hd k (nI x.2)) (by rw [fx_rem ho hh']) ⟨vp_in_nI ho (by omega), ?_⟩⟩⟩)⟩
    rw [nI_clamp (by omega)]
    by_cases hno : pe x.1 = -1
    · rw [fb_pk_d (q := (st, pl, hd, tr)) (eg.trans hg) hno] at eQ
      subst eQ
      exact br_t hno ⟨hv, nm_e ⟨hv, nm_e hp⟩⟩
    · refine br_f hno ⟨vp_in_nI ho (by omega), hv, nm_e ⟨hv, ?_⟩⟩
      rw [pk_us, em, nI_1]
      by_cases h15 : m = 15
      · have e15 : tr k = 15 := by rw [em, h15]; rfl
        rw [fb_pk_l (q := (st, pl, hd, tr)) (eg.trans hg) hno e15] at eQ
        subst eQ
        refine br_f (nI_nlt (b := 16) (by omega) (by omega)) ⟨hv, nm_e ?_⟩
        dsimp only at hp
        rw [em, nI_1] at hp
        exact hp
      · have e15 : ¬ tr k = 15 := fun z => h15 ((nI_eq (b := 15) (by omega) (by omega)).mp (em.symm.trans z))
        rw [fb_pk_g (q := (st, pl, hd, tr)) (eg.trans hg) hno e15] at eQ
        subst eQ
        refine br_t (nI_lt (b := 16) (by omega) (by omega)) ?_
        dsimp only at hp
        rw [em, nI_1] at hp
        exact hp
end
