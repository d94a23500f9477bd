/-! Y's walks: the questions -/
def fb_o1 : Option (Nat × Nat) → Int32
  | none => -1
  | some x => nI x.1
def fb_o2 (h : Nat) : Option (Nat × Nat) → Int32
  | none => nI h
  | some x => nI x.2
theorem fb_seen_n {T : fb_Tab} {pe : Nat → Int32} {n p h a : Nat} (hg : fb_go T p h none = none) : fb_seen T pe (n + 1) p h a = a ||| 2 ^ (p / 4) := by
  rw [fb_seen, hg]
theorem fb_seen_d {T : fb_Tab} {pe : Nat → Int32} {n p h a : Nat} {x : Nat × Nat} (hg : fb_go T p h none = some x) (hn : pe x.1 = -1) : fb_seen T pe (n + 1) p h a = a ||| 2 ^ (p / 4) := by
  rw [fb_seen, hg]
  exact if_pos hn
theorem fb_seen_g {T : fb_Tab} {pe : Nat → Int32} {n p h a b : Nat} {x : Nat × Nat} (hg : fb_go T p h none = some x) (hn : ¬ pe x.1 = -1) (hb : b < 20) (eb : pe x.1 = nI b) : fb_seen T pe (n + 1) p h a = fb_seen T pe n b x.2 (a ||| 2 ^ (p / 4)) := by
  rw [fb_seen, hg]
  refine (if_neg hn).trans ?_
  rw [eb, nI_clamp (by omega)]
section
variable {fB oP oH sn : Int32} {pe ls rm ra rc st pl hd tY tr : Nat → Int32}
theorem fy_fits {post : Int32 → Prop} {q h m : Nat} (hq : q < 120) (em : rm q = nI m) (hm : m < 4096) (h1 : (h ^^^ (m % 64)) &&& (m / 64) = 0 → post 1) (h0 : ¬ (h ^^^ (m % 64)) &&& (m / 64) = 0 → post 0) : wpY_fits post (fB, oP, oH, sn, pe, ls, rm, ra, rc, st, pl, hd, tY, tr) (nI q) (nI h) := by
  have hv : vp_in (nI q) 120 := vp_in_nI hq (by omega)
  have hc : (nI q).toNatClampNeg = q := nI_clamp (by omega)
  have e1 : nI m &&& 63 = nI (m % 64) := pk_andN (by omega) 6 (by decide)
  have e2 : nI m >>> ((6 : Int32) &&& 31) = nI (m / 64) := pk_shrN (by omega) _ 6 (by decide)
  unfold wpY_fits
  refine ⟨hv, hv, ?_⟩
  rw [hc, em, e1, e2, nx_xor, nx_and]
  by_cases e : (h ^^^ (m % 64)) &&& (m / 64) = 0
  · exact br_t (by rw [e]; rfl) (h1 e)
  · have hlt : (h ^^^ (m % 64)) &&& (m / 64) ≤ m / 64 := Nat.and_le_right
    exact br_f (nI_ne0 (by omega) (by omega)) (h0 e)
theorem fy_r14 {post : Int32 → Prop} {t s h : Nat} {but : Option Nat} {bx : Int32} {T : fb_Tab} (R : fb_rep ls rm ra rc t T) (ht : t < 4) (hs : s < 5) (hb : fb_butI (6 * (5 * t + s)) (T.1 s) but bx) :
    ∀ d i, i + d = T.1 s → post (fb_ri (6 * (5 * t + s)) (fb_find (fb_ff T s h but) d i)) → ∀ n, d < n → wY_ruleFor_14 post (nI t) (nI s) (nI h) bx (nI (6 * (5 * t + s))) fB oP oH sn pe ls rm ra rc st pl hd tY tr n (nI (6 * (5 * t + s) + i)) := by
  obtain ⟨h6, hl, hm, _, _⟩ := R s hs
  have e5 : (5 : Int32) * nI t + nI s = nI (5 * t + s) := by rw [show (5 : Int32) = nI 5 from rfl, pk_mul, nI_add]
  have hin : vp_in (5 * nI t + nI s) 20 := by rw [e5]; exact vp_in_nI (by omega) (by omega)
  have hcl : ((5 : Int32) * nI t + nI s).toNatClampNeg = 5 * t + s := by rw [e5]; exact nI_clamp (by omega)
  intro d
  induction d with
  | zero =>
    intro i hi hp n hn
    obtain ⟨m, rfl⟩ : ∃ m, n = m + 1 := ⟨n - 1, by omega⟩
    refine And.intro hin (br_t ?_ hp)
    rw [hcl, hl, nI_add]
    exact nI_le (by omega) (by omega)
  | succ d ih =>
    intro i hi hp n hn
    obtain ⟨m, rfl⟩ : ∃ m, n = m + 1 := ⟨n - 1, by omega⟩
    have hi' : i < T.1 s := by omega
    obtain ⟨em, hm4⟩ := hm i hi'
    refine And.intro hin (br_f ?_ ?_)
    · rw [hcl, hl, nI_add]
      exact nI_ge (by omega) (by omega)
    · by_cases hbt : but = some i
      · rw [fb_find_f (fb_ff_b hbt)] at hp
        exact br_t ((hb i hi').mpr hbt) (nm_r (nI_1 _) (ih (i + 1) (by omega) hp m (by omega)))
      · refine br_f (fun z => hbt ((hb i hi').mp z)) (fy_fits (by omega) em hm4 (fun hft => ?_) (fun hft => ?_))
        · rw [fb_find_t (fb_ff_t hbt hft)] at hp
          exact br_f (by decide) hp
        · rw [fb_find_f (fb_ff_f hft)] at hp
          exact br_t rfl (nm_r (nI_1 _) (ih (i + 1) (by omega) hp m (by omega)))
theorem fy_rf {post : Int32 → Prop} {x y z bx : Int32} (t s h : Nat) (ex : x = nI t) (ey : y = nI s) (ez : z = nI h) {but : Option Nat} {T : fb_Tab} (R : fb_rep ls rm ra rc t T) (ht : t < 4) (hs : s < 5)
    (hb : fb_butI (6 * (5 * t + s)) (T.1 s) but bx) (hn : fb_first T s h but = none → post (-1)) (hp : ∀ i, i < T.1 s → fb_first T s h but = some i → post (nI (6 * (5 * t + s) + i))) :
    wpY_ruleFor post (fB, oP, oH, sn, pe, ls, rm, ra, rc, st, pl, hd, tY, tr) x y z bx := by
  subst ex ey ez
  have e5 : (6 : Int32) * (5 * nI t + nI s) = nI (6 * (5 * t + s)) := by rw [show (5 : Int32) = nI 5 from rfl, pk_mul, nI_add, show (6 : Int32) = nI 6 from rfl, pk_mul]
  unfold wpY_ruleFor
  refine nm_r e5 ⟨T.1 s + 1, fy_r14 (t := t) (s := s) (h := h) (but := but) R ht hs hb (T.1 s) 0 (by omega) ?_ _ (by omega)⟩
  rw [← fb_first_e]
  cases hf : fb_first T s h but with
  | none => exact hn hf
  | some i => exact hp i (fb_first_lt hf) hf
theorem fy_treat {post : SY → Prop} {x y z w : Int32} (t p h : Nat) (ex : x = nI t) (ey : y = nI p) (ez : z = nI h) {but : Option Nat} {T : fb_Tab} (R : fb_rep ls rm ra rc t T) (ht : t < 4) (hp20 : p < 20) (hh : h < 64)
    (hb : fb_butI (6 * (5 * t + p / 4)) (T.1 (p / 4)) but w) (hp : post (fB, fb_o1 (fb_go T p h but), fb_o2 h (fb_go T p h but), sn, pe, ls, rm, ra, rc, st, pl, hd, tY, tr)) : wpY_treat post (fB, oP, oH, sn, pe, ls, rm, ra, rc, st, pl, hd, tY, tr) x y z w := by
  subst ex ey ez
  obtain ⟨h6, hl, _, ha, hc⟩ := R (p / 4) (by omega)
  have eq4 : nI p / 4 = nI (p / 4) := pk_div (d := 4) (by omega) (by omega) (by omega)
  unfold wpY_treat
  refine ⟨by decide, fy_rf t (p / 4) h rfl eq4 rfl R ht (by omega) hb ?_ ?_⟩
  · intro hf
    rw [fb_go_n hf] at hp
    exact br_t (by decide) hp
  · intro i hi hf
    obtain ⟨ea, ha6⟩ := ha i hi
    obtain ⟨ec, hc4⟩ := hc i hi
    have hcl : (nI (6 * (5 * t + p / 4) + i)).toNatClampNeg = 6 * (5 * t + p / 4) + i := nI_clamp (by omega)
    have hv : vp_in (nI (6 * (5 * t + p / 4) + i)) 120 := vp_in_nI (by omega) (by omega)
    have es : nI (T.2.2.2 (p / 4) i) >>> ((6 : Int32) &&& 31) = nI (T.2.2.2 (p / 4) i / 64) := pk_shrN (by omega) _ 6 (by decide)
    have eh : (nI h &&& (nI (T.2.2.2 (p / 4) i / 64) ^^^ (-1))) ||| (nI (T.2.2.2 (p / 4) i) &&& nI (T.2.2.2 (p / 4) i / 64)) = nI (fb_nh h (T.2.2.2 (p / 4) i)) := by
      rw [fb_not _ (by omega) h hh, nx_and, fb_or, fb_cand _ hc4]
      rfl
    rw [hcl, ea, ec]
    refine br_f (nI_pos (by omega)) ⟨hv, pk_eq (T.2.2.1 (p / 4) i) 4 (fun e4 => ?_) (fun e4 => ⟨hv, nm_r es ⟨hv, nm_r eh ⟨hv, pk_eq (T.2.2.1 (p / 4) i) 5 (fun e5 => ?_) (fun e5 => ⟨by decide, hv, nm_r (e' := nI (p / 4 * 4 + T.2.2.1 (p / 4) i)) ?_ ?_⟩)⟩⟩⟩)⟩
    · rw [fb_go_4 hf e4] at hp
      exact hp
    · rw [fb_go_5 hf e5] at hp
      exact hp
    · rw [eq4, show (4 : Int32) = nI 4 from rfl, pk_mul, nI_add]
    · rw [fb_go_o hf e4 e5] at hp
      exact hp
theorem fy_f32 {post : Int32 → SY → Prop} {t : Nat} {T : fb_Tab} (R : fb_rep ls rm ra rc t T) (ht : t < 4) (hpe : fb_pok pe) :
    ∀ d k p h a, k + d = 16 → p < 20 → h < 64 → ∀ o1 o2 : Int32, (∀ o1 o2 : Int32, post (fb_fate T pe d p h) (fB, o1, o2, nI (fb_seen T pe d p h a), pe, ls, rm, ra, rc, st, pl, hd, tY, tr)) → ∀ n, d < n →
    wY_follow_32 post (nI t) n (nI p) (nI h) (nI k) fB o1 o2 (nI a) pe ls rm ra rc st pl hd tY tr := by
  intro d
  induction d with
  | zero =>
    intro k p h a hk hp20 hh o1 o2 hp n hn
    obtain ⟨m, rfl⟩ : ∃ m, n = m + 1 := ⟨n - 1, by omega⟩
    exact br_t (nI_le (a := 16) (by omega) (by omega)) (hp o1 o2)
  | succ d ih =>
    intro k p h a hk hp20 hh o1 o2 hp n hn
    obtain ⟨m, rfl⟩ : ∃ m, n = m + 1 := ⟨n - 1, by omega⟩
    have h6 := (R (p / 4) (by omega)).1
    have es : nI a ||| ((1 : Int32) <<< ((nI p / 4) &&& 31)) = nI (a ||| 2 ^ (p / 4)) := by
      rw [show nI p / 4 = nI (p / 4) from pk_div (d := 4) (by omega) (by omega) (by omega), fb_sh1 (p / 4) (by omega), fb_or]
    refine br_f (nI_ge (b := 16) (by omega) (by omega)) ⟨by decide, nm_r es (fy_treat t p h rfl rfl rfl (but := none) R ht hp20 hh (fb_but0 (by omega)) ?_)⟩
    cases hg : fb_go T p h none with
    | none =>
      rw [fb_fate_n hg, fb_seen_n hg] at hp
      exact br_f (c := 0 ≤ fb_o1 none) (by decide) (hp _ _)
    | some x =>
      obtain ⟨ho, hh'⟩ := fb_go_lt (fb_rep_ok R) hp20 hh hg
      refine br_t (c := 0 ≤ fb_o1 (some x)) (nI_pos' (by omega)) ⟨vp_in_nI ho (by omega), ?_⟩
      have hcl : (fb_o1 (some x)).toNatClampNeg = x.1 := nI_clamp (by omega)
      rw [hcl]
      by_cases hno : pe x.1 = -1
      · rw [fb_fate_d hg hno, fb_seen_d hg hno] at hp
        refine br_f (by rw [hno]; decide) ?_
        rw [show (100 : Int32) + fb_o1 (some x) = nI (100 + x.1) from nI_add 100 x.1]
        exact hp _ _
      · obtain ⟨b, hb, eb⟩ := fb_pe_on hpe ho hno
        rw [fb_fate_g hg hno hb eb, fb_seen_g hg hno hb eb] at hp
        exact br_t (by rw [eb]; exact nI_pos' (by omega)) ⟨vp_in_nI ho (by omega), nm_r eb (nm_r (nI_1 k) (ih (k + 1) b x.2 (a ||| 2 ^ (p / 4)) (by omega) hb hh' _ _ hp m (by omega)))⟩
theorem fy_follow {post : Int32 → SY → Prop} {f t h : Nat} {T : fb_Tab} (R : fb_rep ls rm ra rc t T) (ht : t < 4) (hpe : fb_pok pe) (hf : f < 40) (hh : h < 64) (e : (f < 20 ∧ fB = nI t) ∨ (20 ≤ f ∧ t = 0))
    (hp : ∀ o1 o2 : Int32, post (fb_fate T pe 16 (f % 20) h) (fB, o1, o2, nI (fb_seen T pe 16 (f % 20) h 0), pe, ls, rm, ra, rc, st, pl, hd, tY, tr)) : wpY_follow post (fB, oP, oH, sn, pe, ls, rm, ra, rc, st, pl, hd, tY, tr) (nI f) (nI h) := by
  unfold wpY_follow
  rcases e with ⟨h1, h2⟩ | ⟨h1, h2⟩
  · refine br_f (nI_ge (b := 20) (by omega) (by omega)) ⟨by decide, nm_r (pk_rem (d := 20) (by omega) (by omega) (by omega)) ⟨17, ?_⟩⟩
    subst h2
    exact fy_f32 R ht hpe 16 0 (f % 20) h 0 rfl (by omega) hh oP oH hp 17 (by omega)
  · refine br_t (nI_le (a := 20) (by omega) (by omega)) ⟨by decide, nm_r (pk_rem (d := 20) (by omega) (by omega) (by omega)) ⟨17, ?_⟩⟩
    subst h2
    exact fy_f32 R ht hpe 16 0 (f % 20) h 0 rfl (by omega) hh oP oH hp 17 (by omega)
end
/-- what a following asks, of every state that differs in the marks alone -/
def fy_FQ (fB : Int32) (pe ls rm ra rc st pl hd tY tr : Nat → Int32) (x : Int32) (F : Nat → Int32) (S : Nat → Nat) : Prop :=
  ∀ h, h < 64 → ∀ (P : Int32 → SY → Prop) (oP oH sn : Int32), (∀ o1 o2 : Int32, P (F h) (fB, o1, o2, nI (S h), pe, ls, rm, ra, rc, st, pl, hd, tY, tr)) → wpY_follow P (fB, oP, oH, sn, pe, ls, rm, ra, rc, st, pl, hd, tY, tr) x (nI h)
section
variable {fB oP oH sn : Int32} {pe ls rm ra rc st pl hd tY tr : Nat → Int32}
theorem fy_c5 {post : Int32 → SY → Prop} {x w : Int32} {F : Nat → Int32} {S : Nat → Nat} (hF : fy_FQ fB pe ls rm ra rc st pl hd tY tr x F S) (hp : ∀ oP oH sn : Int32, post (nI (fb_cnt (fun h => decide (F h = w)) 64)) (fB, oP, oH, sn, pe, ls, rm, ra, rc, st, pl, hd, tY, tr)) :
    ∀ d k, k + d = 64 → ∀ oP oH sn : Int32, ∀ n, d < n → wY_count_5 post x w n (nI (fb_cnt (fun h => decide (F h = w)) k)) (nI k) fB oP oH sn pe ls rm ra rc st pl hd tY tr := by
  intro d
  induction d with
  | zero =>
    intro k hk oP oH sn n hn
    obtain ⟨m, rfl⟩ : ∃ m, n = m + 1 := ⟨n - 1, by omega⟩
    obtain rfl : k = 64 := hk
    exact br_t (nI_le (a := 64) (by omega) (by omega)) (hp oP oH sn)
  | succ d ih =>
    intro k hk oP oH sn n hn
    obtain ⟨m, rfl⟩ : ∃ m, n = m + 1 := ⟨n - 1, by omega⟩
    refine br_f (nI_ge (b := 64) (by omega) (by omega)) (hF k (by omega) _ oP oH sn (fun o1 o2 => ?_))
    have r := ih (k + 1) (by omega) o1 o2 (nI (S k)) m (by omega)
    by_cases e : F k = w
    · rw [fb_cnt_t (decide_eq_true e)] at r
      exact br_t e (nm_r (nI_1 _) (nm_r (nI_1 k) r))
    · rw [fb_cnt_f (fun z => e (of_decide_eq_true z))] at r
      exact br_f e (nm_r (nI_1 k) r)
theorem fy_cnt {post : Int32 → SY → Prop} {x w : Int32} {F : Nat → Int32} {S : Nat → Nat} (hF : fy_FQ fB pe ls rm ra rc st pl hd tY tr x F S) (hp : ∀ oP oH sn : Int32, post (nI (fb_cnt (fun h => decide (F h = w)) 64)) (fB, oP, oH, sn, pe, ls, rm, ra, rc, st, pl, hd, tY, tr)) :
    wpY_count post (fB, oP, oH, sn, pe, ls, rm, ra, rc, st, pl, hd, tY, tr) x w := by
  unfold wpY_count
  exact ⟨65, fy_c5 hF hp 64 0 rfl oP oH sn 65 (by omega)⟩
theorem fy_na {post : Int32 → SY → Prop} {x y z : Int32} {F : Nat → Int32} {S : Nat → Nat} (hF : fy_FQ fB pe ls rm ra rc st pl hd tY tr x F S) :
    ∀ d k, k + d = 64 → (∀ oP oH sn : Int32, post (fb_oi (-2) (fb_find (fun h => decide (¬ nI h ≤ z ∧ F h = 100 + y)) d k)) (fB, oP, oH, sn, pe, ls, rm, ra, rc, st, pl, hd, tY, tr)) → ∀ oP oH sn : Int32, ∀ n, d < n → wY_nextArriving_21 post x y z n (nI k) fB oP oH sn pe ls rm ra rc st pl hd tY tr := by
  intro d
  induction d with
  | zero =>
    intro k hk hp oP oH sn n hn
    obtain ⟨m, rfl⟩ : ∃ m, n = m + 1 := ⟨n - 1, by omega⟩
    exact br_t (nI_le (a := 64) (by omega) (by omega)) (hp oP oH sn)
  | succ d ih =>
    intro k hk hp oP oH sn n hn
    obtain ⟨m, rfl⟩ : ∃ m, n = m + 1 := ⟨n - 1, by omega⟩
    refine br_f (nI_ge (b := 64) (by omega) (by omega)) ?_
    by_cases hz : nI k ≤ z
    · rw [fb_find_f (fun q => (of_decide_eq_true q).1 hz)] at hp
      exact br_t hz (nm_r (nI_1 k) (ih (k + 1) (by omega) hp oP oH sn m (by omega)))
    · refine br_f hz (hF k (by omega) _ oP oH sn (fun o1 o2 => ?_))
      by_cases e : F k = 100 + y
      · rw [fb_find_t (decide_eq_true ⟨hz, e⟩)] at hp
        exact br_t e (hp _ _ _)
      · rw [fb_find_f (fun q => e (of_decide_eq_true q).2)] at hp
        exact br_f e (nm_r (nI_1 k) (ih (k + 1) (by omega) hp o1 o2 (nI (S k)) m (by omega)))
theorem fy_vi {post : Int32 → SY → Prop} {x : Int32} {s : Nat} {F : Nat → Int32} {S : Nat → Nat} {G : Nat → Bool} (hs : s < 5) (hF : fy_FQ fB pe ls rm ra rc st pl hd tY tr x F S)
    (hG : ∀ h, h < 64 → S h < 32 ∧ (S h).testBit s = G h) (hp : ∀ oP oH sn : Int32, post (nI (fb_cnt G 64)) (fB, oP, oH, sn, pe, ls, rm, ra, rc, st, pl, hd, tY, tr)) :
    ∀ d k, k + d = 64 → ∀ oP oH sn : Int32, ∀ n, d < n → wY_visiting_24 post x (nI s) n (nI (fb_cnt G k)) (nI k) fB oP oH sn pe ls rm ra rc st pl hd tY tr := by
  intro d
  induction d with
  | zero =>
    intro k hk oP oH sn n hn
    obtain ⟨m, rfl⟩ : ∃ m, n = m + 1 := ⟨n - 1, by omega⟩
    obtain rfl : k = 64 := hk
    exact br_t (nI_le (a := 64) (by omega) (by omega)) (hp oP oH sn)
  | succ d ih =>
    intro k hk oP oH sn n hn
    obtain ⟨m, rfl⟩ : ∃ m, n = m + 1 := ⟨n - 1, by omega⟩
    refine br_f (nI_ge (b := 64) (by omega) (by omega)) (hF k (by omega) _ oP oH sn (fun o1 o2 => ?_))
    have r := ih (k + 1) (by omega) o1 o2 (nI (S k)) m (by omega)
    obtain ⟨g1, g2⟩ := hG k (by omega)
    have hb := fb_sbit (S k) g1 s hs
    rw [g2] at hb
    by_cases e : G k = true
    · rw [fb_cnt_t e] at r
      exact br_t (hb.mpr e) (nm_r (nI_1 _) (nm_r (nI_1 k) r))
    · rw [fb_cnt_f e] at r
      exact br_f (fun z => e (hb.mp z)) (nm_r (nI_1 k) r)
theorem fy_di {post : Int32 → SY → Prop} {x : Int32} {F G : Nat → Int32} {S S' : Nat → Nat} (hF : fy_FQ fB pe ls rm ra rc st pl hd tY tr x F S) (hG : fy_FQ fB pe ls rm ra rc st pl hd tY tr (x + 20) G S')
    (hp : ∀ oP oH sn : Int32, post (nI (fb_cnt (fun h => decide (¬ F h = G h)) 64)) (fB, oP, oH, sn, pe, ls, rm, ra, rc, st, pl, hd, tY, tr)) :
    ∀ d k, k + d = 64 → ∀ oP oH sn : Int32, ∀ n, d < n → wY_differing_14 post x n (nI (fb_cnt (fun h => decide (¬ F h = G h)) k)) (nI k) fB oP oH sn pe ls rm ra rc st pl hd tY tr := by
  intro d
  induction d with
  | zero =>
    intro k hk oP oH sn n hn
    obtain ⟨m, rfl⟩ : ∃ m, n = m + 1 := ⟨n - 1, by omega⟩
    obtain rfl : k = 64 := hk
    exact br_t (nI_le (a := 64) (by omega) (by omega)) (hp oP oH sn)
  | succ d ih =>
    intro k hk oP oH sn n hn
    obtain ⟨m, rfl⟩ : ∃ m, n = m + 1 := ⟨n - 1, by omega⟩
    refine br_f (nI_ge (b := 64) (by omega) (by omega)) (hF k (by omega) _ oP oH sn (fun o1 o2 => hG k (by omega) _ o1 o2 (nI (S k)) (fun o3 o4 => ?_)))
    have r := ih (k + 1) (by omega) o3 o4 (nI (S' k)) m (by omega)
    by_cases e : F k = G k
    · rw [fb_cnt_f (fun z => (of_decide_eq_true z) e)] at r
      exact br_t e (nm_r (nI_1 k) r)
    · rw [fb_cnt_t (decide_eq_true e)] at r
      exact br_f e (nm_r (nI_1 _) (nm_r (nI_1 k) r))
theorem fy_dg {post : Int32 → Prop} {s i : Nat} {T : fb_Tab} (R : fb_rep ls rm ra rc 0 T) (hs : s < 5) (hi : i < T.1 s) (hp : post (nI (fb_cnt (fun h => decide (fb_first T s h none = some i)) 64))) :
    ∀ d k, k + d = 64 → ∀ n, d < n → wY_deciding_16 post (nI s) (nI i) fB oP oH sn pe ls rm ra rc st pl hd tY tr n (nI (fb_cnt (fun h => decide (fb_first T s h none = some i)) k)) (nI k) := by
  have h6 := (R s hs).1
  have e6 : (6 : Int32) * nI s + nI i = nI (6 * s + i) := by rw [show (6 : Int32) = nI 6 from rfl, pk_mul, nI_add]
  intro d
  induction d with
  | zero =>
    intro k hk n hn
    obtain ⟨m, rfl⟩ : ∃ m, n = m + 1 := ⟨n - 1, by omega⟩
    obtain rfl : k = 64 := hk
    exact br_t (nI_le (a := 64) (by omega) (by omega)) hp
  | succ d ih =>
    intro k hk n hn
    obtain ⟨m, rfl⟩ : ∃ m, n = m + 1 := ⟨n - 1, by omega⟩
    have r := ih (k + 1) (by omega) m (by omega)
    refine br_f (nI_ge (b := 64) (by omega) (by omega)) (fy_rf 0 s k rfl rfl rfl (but := none) R (by omega) hs (fb_but0 (by omega)) (fun hf => ?_) (fun j hj hf => ?_))
    · have hne : ¬ decide (fb_first T s k none = some i) = true := by
        intro z
        have z2 := of_decide_eq_true z
        rw [hf] at z2
        cases z2
      rw [fb_cnt_f hne] at r
      rw [e6]
      exact br_f (fun z => fw_m1 (by omega) z.symm) (nm_r (nI_1 k) r)
    · rw [e6]
      by_cases e : j = i
      · subst e
        rw [fb_cnt_t (decide_eq_true hf)] at r
        exact br_t (congrArg nI (by omega)) (nm_r (nI_1 _) (nm_r (nI_1 k) r))
      · rw [fb_cnt_f (fun z => e (Option.some.inj (hf.symm.trans (of_decide_eq_true z))))] at r
        refine br_f (fun z => e ?_) (nm_r (nI_1 k) r)
        have := (nI_eq (by omega) (by omega)).mp z
        omega
theorem fb_o12 {h : Nat} {a b : Option (Nat × Nat)} (ha : ∀ x, a = some x → x.1 < 20 ∧ x.2 < 64) (hb : ∀ x, b = some x → x.1 < 20 ∧ x.2 < 64) : (fb_o1 b = fb_o1 a ∧ fb_o2 h b = fb_o2 h a) ↔ a = b := by
  refine ⟨fun e => ?_, fun e => by rw [e]; exact ⟨rfl, rfl⟩⟩
  obtain ⟨e1, e2⟩ := e
  cases a with
  | none =>
    cases b with
    | none => rfl
    | some y =>
      have := hb y rfl
      exact absurd e1 (fw_m1 (by omega))
  | some x =>
    have hx := ha x rfl
    cases b with
    | none => exact absurd e1.symm (fw_m1 (by omega))
    | some y =>
      have hy := hb y rfl
      have e3 : y.1 = x.1 := (nI_eq (by omega) (by omega)).mp e1
      have e4 : y.2 = x.2 := (nI_eq (by omega) (by omega)).mp e2
      exact congrArg some (Prod.ext e3.symm e4.symm)
theorem fy_nl {post : Int32 → SY → Prop} {s i : Nat} {T : fb_Tab} (R : fb_rep ls rm ra rc 0 T) (hs : s < 5) (hi : i < T.1 s) :
    ∀ d c, c + d = 256 → ((∃ j, c ≤ j ∧ j < 256 ∧ ¬ fb_nd T s i j) → ∀ oP oH : Int32, post 0 (fB, oP, oH, sn, pe, ls, rm, ra, rc, st, pl, hd, tY, tr)) → ((∀ j, c ≤ j → j < 256 → fb_nd T s i j) → ∀ oP oH : Int32, post 1 (fB, oP, oH, sn, pe, ls, rm, ra, rc, st, pl, hd, tY, tr)) →
    ∀ oP oH : Int32, ∀ n, d < n → wY_needless_13 post (nI s) (nI i) n (nI c) fB oP oH sn pe ls rm ra rc st pl hd tY tr := by
  have h6 := (R s hs).1
  have e6 : (6 : Int32) * nI s + nI i = nI (6 * s + i) := by rw [show (6 : Int32) = nI 6 from rfl, pk_mul, nI_add]
  intro d
  induction d with
  | zero =>
    intro c hc h0 h1 oP oH n hn
    obtain ⟨m, rfl⟩ : ∃ m, n = m + 1 := ⟨n - 1, by omega⟩
    exact br_t (nI_le (a := 256) (by omega) (by omega)) (h1 (fun j h2 h3 => absurd h2 (by omega)) oP oH)
  | succ d ih =>
    intro c hc h0 h1 oP oH n hn
    obtain ⟨m, rfl⟩ : ∃ m, n = m + 1 := ⟨n - 1, by omega⟩
    have q : (4 * s + c / 64) / 4 = s := by omega
    have b0 : fb_butI (6 * (5 * 0 + (4 * s + c / 64) / 4)) (T.1 ((4 * s + c / 64) / 4)) none (-1) := by
      rw [q]
      exact fb_but0 (by omega)
    have b1 : fb_butI (6 * (5 * 0 + (4 * s + c / 64) / 4)) (T.1 ((4 * s + c / 64) / 4)) (some i) (6 * nI s + nI i) := by
      rw [q, e6, show 6 * s + i = 6 * (5 * 0 + s) + i by omega]
      exact fb_but1 (by omega) hi
    have e4 : (4 : Int32) * nI s + nI c / 64 = nI (4 * s + c / 64) := by
      rw [show nI c / 64 = nI (c / 64) from pk_div (d := 64) (by omega) (by omega) (by omega), show (4 : Int32) = nI 4 from rfl, pk_mul, nI_add]
    have er : nI c - nI c / 64 * 64 = nI (c % 64) := pk_rem (d := 64) (by omega) (by omega) (by omega)
    have ok := fb_rep_ok R
    have ei := fb_o12 (h := c % 64) (a := fb_go T (4 * s + c / 64) (c % 64) none) (b := fb_go T (4 * s + c / 64) (c % 64) (some i)) (fun x hx => fb_go_lt ok (by omega) (by omega) hx) (fun x hx => fb_go_lt ok (by omega) (by omega) hx)
    refine br_f (nI_ge (b := 256) (by omega) (by omega)) ⟨by decide, nm_r e4 ⟨by decide, fy_treat 0 (4 * s + c / 64) (c % 64) rfl rfl er R (by omega) (by omega) (by omega) b0 ⟨by decide, fy_treat 0 (4 * s + c / 64) (c % 64) rfl rfl er R (by omega) (by omega) (by omega) b1 ?_⟩⟩⟩
    by_cases e : fb_nd T s i c
    · have e2 := ei.mpr e
      refine br_t e2.1 (br_t e2.2 (nm_r (nI_1 c) (ih (c + 1) (by omega) (fun ⟨j, a, b, z⟩ => h0 ⟨j, by omega, b, z⟩) (fun h2 => h1 (fun j h3 h4 => ?_)) _ _ m (by omega))))
      by_cases ej : j = c
      · rw [ej]; exact e
      · exact h2 j (by omega) h4
    · have hz := h0 ⟨c, Nat.le_refl _, by omega, e⟩
      exact br_c (fun a => br_c (fun b => absurd (ei.mp ⟨a, b⟩) e) (fun _ => hz _ _)) (fun _ => hz _ _)
end
