/-! X's walks: numbers, rules put, copied, shifted, tables copied -/
theorem fw_big {x : Int32} {a b : Nat} (h : nI a ≤ x) (hb : b < a) (ha : a < 2 ^ 31) : ¬ x ≤ nI b ∧ nI b < x ∧ ¬ x < 0 := by
  have h1 := Int32.le_iff_toInt_le.mp h
  rw [nI_toInt ha] at h1
  refine ⟨fun z => ?_, ?_, fun z => ?_⟩
  · have h2 := Int32.le_iff_toInt_le.mp z
    rw [nI_toInt (by omega)] at h2
    omega
  · rw [Int32.lt_iff_toInt_lt, nI_toInt (by omega)]
    omega
  · have h2 := Int32.lt_iff_toInt_lt.mp z
    rw [show (0 : Int32).toInt = 0 from by decide] at h2
    omega
theorem fw_m1 {n : Nat} (h : n < 2 ^ 31) : ¬ nI n = -1 := by
  intro e
  have h2 := congrArg Int32.toInt e
  rw [nI_toInt h, show (-1 : Int32).toInt = -1 from by decide] at h2
  omega
theorem fx_in {post : Int32 → Prop} {n L : Nat} (h : n < L) (hL : L < 2 ^ 31) (hp : post 1) : wpX_within post (nI n) (nI L) :=
  br_f (nI_pos (by omega)) (br_f (nI_ge h hL) hp)
theorem fx_out {post : Int32 → Prop} {x : Int32} {L : Nat} (h : x < 0 ∨ nI L ≤ x) (hp : post 0) : wpX_within post x (nI L) := by
  rcases h with h | h
  · exact br_t h hp
  · by_cases h0 : x < 0
    · exact br_t h0 hp
    · exact br_f h0 (br_t h hp)
theorem fx_lo {post : Int32 → Prop} {x y : Int32} (t s : Nat) (ex : x = nI t) (ey : y = nI s) (h : post (nI (5 * t + s))) : wpX_listOf post x y := by
  have e : x * 5 + y = nI (5 * t + s) := by
    rw [ex, ey, show (5 : Int32) = nI 5 from rfl, pk_mul, nI_add, Nat.mul_comm]
  unfold wpX_listOf
  rw [e]
  exact h
section
variable {fA : Int32} {pe ls rm ra rc st pl hd tX tr : Nat → Int32}
theorem fx_sr_s {post : Int32 → Prop} {x y : Int32} (h : x < 0 ∨ nI 5 ≤ x) (hp : post 0) : wpX_isStagedRule post (fA, pe, ls, rm, ra, rc, st, pl, hd, tX, tr) x y := by
  unfold wpX_isStagedRule
  exact fx_out (L := 5) h (br_t rfl hp)
theorem fx_sr_i {post : Int32 → Prop} {s : Nat} {y : Int32} {T : fb_Tab} (R : fb_rep ls rm ra rc 3 T) (hs : s < 5) (h : y < 0 ∨ nI (T.1 s) ≤ y) (hp : post 0) : wpX_isStagedRule post (fA, pe, ls, rm, ra, rc, st, pl, hd, tX, tr) (nI s) y := by
  obtain ⟨h6, hl, _⟩ := R s hs
  unfold wpX_isStagedRule
  refine fx_in (L := 5) hs (by omega) (br_f (by decide) (fx_lo 3 s rfl rfl ⟨vp_in_nI (by omega) (by omega), nm_r (e' := nI (T.1 s)) ?_ (fx_out h ⟨rfl, hp⟩)⟩))
  rw [nI_clamp (by omega)]
  exact hl
theorem fx_sr {post : Int32 → Prop} {s i : Nat} {T : fb_Tab} (R : fb_rep ls rm ra rc 3 T) (hs : s < 5) (hi : i < T.1 s) (hp : post 1) : wpX_isStagedRule post (fA, pe, ls, rm, ra, rc, st, pl, hd, tX, tr) (nI s) (nI i) := by
  obtain ⟨h6, hl, _⟩ := R s hs
  unfold wpX_isStagedRule
  refine fx_in (L := 5) hs (by omega) (br_f (by decide) (fx_lo 3 s rfl rfl ⟨vp_in_nI (by omega) (by omega), nm_r (e' := nI (T.1 s)) ?_ (fx_in hi (by omega) ⟨rfl, hp⟩)⟩))
  rw [nI_clamp (by omega)]
  exact hl
theorem fx_put {post : SX → Prop} {x y z w : Int32} (q : Nat) (ew : w = nI q) (hq : q < 120) (hp : post (fA, pe, ls, upd rm q x, upd ra q y, upd rc q z, st, pl, hd, tX, tr)) : wpX_putRule post (fA, pe, ls, rm, ra, rc, st, pl, hd, tX, tr) w x y z := by
  subst ew
  have hc : (nI q).toNatClampNeg = q := nI_clamp (by omega)
  have hv : vp_in (nI q) 120 := vp_in_nI hq (by omega)
  unfold wpX_putRule
  refine ⟨hv, nm_r (e' := upd rm q x) (by rw [hc]) ⟨hv, nm_r (e' := upd ra q y) (by rw [hc]) ⟨hv, nm_r (e' := upd rc q z) (by rw [hc]) hp⟩⟩⟩
theorem fx_cr {post : SX → Prop} {x y : Int32} (a b : Nat) (ex : x = nI a) (ey : y = nI b) (ha : a < 120) (hb : b < 120)
    (hp : post (fA, pe, ls, upd rm b (rm a), upd ra b (ra a), upd rc b (rc a), st, pl, hd, tX, tr)) : wpX_copyRule post (fA, pe, ls, rm, ra, rc, st, pl, hd, tX, tr) x y := by
  subst ex
  have hc : (nI a).toNatClampNeg = a := nI_clamp (by omega)
  have hv : vp_in (nI a) 120 := vp_in_nI ha (by omega)
  unfold wpX_copyRule
  refine ⟨hv, hv, hv, ?_⟩
  rw [hc]
  exact fx_put b ey hb hp
theorem fx_s73e {post : SX → Prop} {x y z : Int32} {b i j : Nat} (hij : i ≤ j) (hj : j < 6) (hb : b + 6 ≤ 120)
    (hp : post (fA, pe, ls, upd rm (b + j) x, upd ra (b + j) y, upd rc (b + j) z, st, pl, hd, tX, tr)) (n : Nat) :
    wX_shiftRule_73 post (nI j) (nI b) x y z (n + 1) (nI i) fA pe ls rm ra rc st pl hd tX tr := by
  refine br_t (nI_le hij (by omega)) ?_
  exact fx_put (b + j) (nI_add b j) (by omega) hp
theorem fx_s73 {post : SX → Prop} {x y z : Int32} {b i j : Nat} (hi : i < 6) (hj : j < 6) (hb : b + 6 ≤ 120)
    (hp : post (fA, pe, ls, upd (fb_dn (b + j) (b + i) rm) (b + j) x, upd (fb_dn (b + j) (b + i) ra) (b + j) y, upd (fb_dn (b + j) (b + i) rc) (b + j) z, st, pl, hd, tX, tr)) :
    ∀ d k, k = j + d → k ≤ i → ∀ n, d < n → wX_shiftRule_73 post (nI j) (nI b) x y z n (nI k) fA pe ls (fb_dn (b + k) (b + i) rm) (fb_dn (b + k) (b + i) ra) (fb_dn (b + k) (b + i) rc) st pl hd tX tr := by
  intro d
  induction d with
  | zero =>
    intro k hk hki n hn
    obtain ⟨m, rfl⟩ : ∃ m, n = m + 1 := ⟨n - 1, by omega⟩
    obtain rfl : k = j := hk
    exact fx_s73e (Nat.le_refl _) hj hb hp m
  | succ d ih =>
    intro k hk hki n hn
    obtain ⟨m, rfl⟩ : ∃ m, n = m + 1 := ⟨n - 1, by omega⟩
    obtain ⟨k, rfl⟩ : ∃ k', k = k' + 1 := ⟨k - 1, by omega⟩
    refine br_f (nI_ge (by omega) (by omega)) ?_
    refine fx_cr (b + k) (b + k + 1) ?_ (nI_add b (k + 1)) (by omega) (by omega) ?_
    · rw [nI_add, ← Nat.add_assoc, nI_pred]
    · refine nm_r (pk_m1 k) ?_
      have r := ih k (by omega) (by omega) m (by omega)
      have e1 := fb_dn_s (N := b + k) (I := b + i) (by omega) rm
      have e2 := fb_dn_s (N := b + k) (I := b + i) (by omega) ra
      have e3 := fb_dn_s (N := b + k) (I := b + i) (by omega) rc
      rw [← e1, ← e2, ← e3] at r
      exact r
theorem fx_s42 {post : SX → Prop} {x y z : Int32} {b i j : Nat} (hj : j < 6) (hb : b + 6 ≤ 120)
    (hp : post (fA, pe, ls, upd (fb_up (b + i) (b + j) rm) (b + j) x, upd (fb_up (b + i) (b + j) ra) (b + j) y, upd (fb_up (b + i) (b + j) rc) (b + j) z, st, pl, hd, tX, tr)) :
    ∀ d k, k + d = j → i ≤ k → ∀ n, d < n → wX_shiftRule_42 post (nI i) (nI j) (nI b) x y z n (nI k) fA pe ls (fb_up (b + i) (b + k) rm) (fb_up (b + i) (b + k) ra) (fb_up (b + i) (b + k) rc) st pl hd tX tr := by
  intro d
  induction d with
  | zero =>
    intro k hk hik n hn
    obtain ⟨m, rfl⟩ : ∃ m, n = m + 1 := ⟨n - 1, by omega⟩
    obtain rfl : k = j := hk
    exact br_t (nI_le (Nat.le_refl _) (by omega)) ⟨1, fx_s73e hik hj hb hp 0⟩
  | succ d ih =>
    intro k hk hik n hn
    obtain ⟨m, rfl⟩ : ∃ m, n = m + 1 := ⟨n - 1, by omega⟩
    refine br_f (nI_ge (by omega) (by omega)) ?_
    refine fx_cr (b + k + 1) (b + k) ?_ (nI_add b k) (by omega) (by omega) ?_
    · rw [nI_add, nI_1]
    · refine nm_r (nI_1 k) ?_
      have r := ih (k + 1) (by omega) (by omega) m (by omega)
      have e1 := fb_up_s (I := b + i) (N := b + k) (by omega) rm
      have e2 := fb_up_s (I := b + i) (N := b + k) (by omega) ra
      have e3 := fb_up_s (I := b + i) (N := b + k) (by omega) rc
      rw [← Nat.add_assoc, ← e1, ← e2, ← e3] at r
      exact r
theorem fx_shift {post : SX → Prop} {i j L : Nat} (hi : i < 6) (hj : j < 6) (hL : L < 20)
    (hp : post (fA, pe, ls, upd (fb_dn (6 * L + j) (6 * L + i) (fb_up (6 * L + i) (6 * L + j) rm)) (6 * L + j) (rm (6 * L + i)), upd (fb_dn (6 * L + j) (6 * L + i) (fb_up (6 * L + i) (6 * L + j) ra)) (6 * L + j) (ra (6 * L + i)), upd (fb_dn (6 * L + j) (6 * L + i) (fb_up (6 * L + i) (6 * L + j) rc)) (6 * L + j) (rc (6 * L + i)), st, pl, hd, tX, tr)) :
    wpX_shiftRule post (fA, pe, ls, rm, ra, rc, st, pl, hd, tX, tr) (nI L) (nI i) (nI j) := by
  have e6 : nI L * 6 = nI (6 * L) := by rw [show (6 : Int32) = nI 6 from rfl, pk_mul, Nat.mul_comm]
  have ea : nI (6 * L) + nI i = nI (6 * L + i) := nI_add _ _
  have hc : (nI (6 * L + i)).toNatClampNeg = 6 * L + i := nI_clamp (by omega)
  have hv : vp_in (nI (6 * L + i)) 120 := vp_in_nI (by omega) (by omega)
  unfold wpX_shiftRule
  refine nm_r e6 ?_
  rw [ea, hc]
  refine ⟨hv, nm_e ⟨hv, nm_e ⟨hv, nm_e ?_⟩⟩⟩
  by_cases hij : i ≤ j
  · rw [fb_dn_0 (by omega), fb_dn_0 (by omega), fb_dn_0 (by omega)] at hp
    have r := fx_s42 hj (by omega) hp (j - i) i (by omega) (Nat.le_refl _) (j - i + 1) (by omega)
    rw [fb_up_0 (Nat.le_refl _), fb_up_0 (Nat.le_refl _), fb_up_0 (Nat.le_refl _)] at r
    exact ⟨_, r⟩
  · rw [fb_up_0 (by omega), fb_up_0 (by omega), fb_up_0 (by omega)] at hp
    have r := fx_s73 hi hj (by omega) hp (i - j) i (by omega) (Nat.le_refl _) (i - j + 1) (by omega)
    rw [fb_dn_0 (Nat.le_refl _), fb_dn_0 (Nat.le_refl _), fb_dn_0 (Nat.le_refl _)] at r
    exact ⟨1, br_t (nI_le (by omega) (by omega)) ⟨_, r⟩⟩
theorem fx_ct39 {post : SX → Prop} {a b : Nat} (ha : a < 4) (hb : b < 4) (hab : a ≠ b)
    (hp : post (fA, pe, ls, fb_cp (30 * a) (30 * b) rm 30, fb_cp (30 * a) (30 * b) ra 30, fb_cp (30 * a) (30 * b) rc 30, st, pl, hd, tX, tr)) :
    ∀ d k, k + d = 30 → ∀ n, d < n → wX_copyTable_39 post (nI a) (nI b) (nI 30) n (nI k) fA pe ls (fb_cp (30 * a) (30 * b) rm k) (fb_cp (30 * a) (30 * b) ra k) (fb_cp (30 * a) (30 * b) rc k) st pl hd tX tr := by
  intro d
  induction d with
  | zero =>
    intro k hk n hn
    obtain ⟨m, rfl⟩ : ∃ m, n = m + 1 := ⟨n - 1, by omega⟩
    obtain rfl : k = 30 := hk
    exact br_t (nI_le (Nat.le_refl _) (by omega)) hp
  | succ d ih =>
    intro k hk n hn
    obtain ⟨m, rfl⟩ : ∃ m, n = m + 1 := ⟨n - 1, by omega⟩
    refine br_f (nI_ge (by omega) (by omega)) ?_
    refine fx_cr (30 * a + k) (30 * b + k) ?_ ?_ (by omega) (by omega) ?_
    · rw [pk_mul, nI_add, Nat.mul_comm]
    · rw [pk_mul, nI_add, Nat.mul_comm]
    · refine nm_r (nI_1 k) ?_
      have r := ih (k + 1) (by omega) m (by omega)
      have e1 := fb_cp_s (a := 30 * a) (b := 30 * b) (w := 30) (n := k) rm (by omega) (by omega)
      have e2 := fb_cp_s (a := 30 * a) (b := 30 * b) (w := 30) (n := k) ra (by omega) (by omega)
      have e3 := fb_cp_s (a := 30 * a) (b := 30 * b) (w := 30) (n := k) rc (by omega) (by omega)
      rw [← e1, ← e2, ← e3] at r
      exact r
theorem fx_ct2 {post : SX → Prop} {a b : Nat} (ha : a < 4) (hb : b < 4) (hab : a ≠ b)
    (hp : post (fA, pe, fb_cp (5 * a) (5 * b) ls 5, fb_cp (30 * a) (30 * b) rm 30, fb_cp (30 * a) (30 * b) ra 30, fb_cp (30 * a) (30 * b) rc 30, st, pl, hd, tX, tr)) :
    ∀ d k, k + d = 5 → ∀ n, d < n → wX_copyTable_2 post (nI a) (nI b) fA n (nI k) pe (fb_cp (5 * a) (5 * b) ls k) rm ra rc st pl hd tX tr := by
  intro d
  induction d with
  | zero =>
    intro k hk n hn
    obtain ⟨m, rfl⟩ : ∃ m, n = m + 1 := ⟨n - 1, by omega⟩
    obtain rfl : k = 5 := hk
    have r := fx_ct39 ha hb hab hp 30 0 rfl 31 (by omega)
    rw [fb_cp_0, fb_cp_0, fb_cp_0] at r
    exact br_t (nI_le (Nat.le_refl _) (by omega)) ⟨_, r⟩
  | succ d ih =>
    intro k hk n hn
    obtain ⟨m, rfl⟩ : ∃ m, n = m + 1 := ⟨n - 1, by omega⟩
    refine br_f (nI_ge (b := 5) (by omega) (by omega)) ?_
    refine fx_lo b k rfl rfl (fx_lo a k rfl rfl ⟨vp_in_nI (by omega) (by omega), vp_in_nI (by omega) (by omega), ?_⟩)
    rw [nI_clamp (by omega), nI_clamp (by omega)]
    refine nm_r (fb_cp_s (w := 5) ls (by omega) (by omega)) ?_
    exact nm_r (nI_1 k) (ih (k + 1) (by omega) m (by omega))
theorem fx_ct {post : SX → Prop} {x y : Int32} (a b : Nat) (ex : x = nI a) (ey : y = nI b) (ha : a < 4) (hb : b < 4) (hab : a ≠ b)
    (hp : post (fA, pe, fb_cp (5 * a) (5 * b) ls 5, fb_cp (30 * a) (30 * b) rm 30, fb_cp (30 * a) (30 * b) ra 30, fb_cp (30 * a) (30 * b) rc 30, st, pl, hd, tX, tr)) :
    wpX_copyTable post (fA, pe, ls, rm, ra, rc, st, pl, hd, tX, tr) x y := by
  subst ex ey
  unfold wpX_copyTable
  have r := fx_ct2 ha hb hab hp 5 0 rfl 6 (by omega)
  rw [fb_cp_0] at r
  exact ⟨_, r⟩
end
