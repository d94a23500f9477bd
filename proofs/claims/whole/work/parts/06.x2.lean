/-! X's walks: the questions -/
def fb_ff (T : fb_Tab) (s h : Nat) (but : Option Nat) : Nat → Bool := fun i => decide (but ≠ some i) && fb_fit (T.2.1 s i) h
theorem fb_ff_t {T : fb_Tab} {s h i : Nat} {but : Option Nat} (hb : ¬ but = some i) (hf : (h ^^^ (T.2.1 s i % 64)) &&& (T.2.1 s i / 64) = 0) : fb_ff T s h but i = true := by
  simp only [fb_ff, fb_fit, hf, ne_eq, hb, not_false_eq_true, decide_true, Bool.and_self]
theorem fb_ff_b {T : fb_Tab} {s h i : Nat} {but : Option Nat} (hb : but = some i) : ¬ fb_ff T s h but i = true := by
  simp [fb_ff, hb]
theorem fb_ff_f {T : fb_Tab} {s h i : Nat} {but : Option Nat} (hf : ¬ (h ^^^ (T.2.1 s i % 64)) &&& (T.2.1 s i / 64) = 0) : ¬ fb_ff T s h but i = true := by
  unfold fb_ff fb_fit
  rw [decide_eq_false hf, Bool.and_false]
  decide
theorem fb_first_e (T : fb_Tab) (s h : Nat) (but : Option Nat) : fb_first T s h but = fb_find (fb_ff T s h but) (T.1 s) 0 := rfl
def fb_ri (b : Nat) : Option Nat → Int32
  | none => -1
  | some i => nI (b + i)
def fb_enc : Option (Nat × Nat) → Int32
  | none => -1
  | some x => nI (64 * x.1 + x.2)
def fb_oi (e : Int32) : Option Nat → Int32
  | none => e
  | some i => nI i
def fb_butI (b n : Nat) (but : Option Nat) (bx : Int32) : Prop := ∀ i, i < n → (nI (b + i) = bx ↔ but = some i)
theorem fb_but0 {b n : Nat} (h : b + n < 2 ^ 31) : fb_butI b n none (-1) := by
  intro i hi
  exact ⟨fun z => absurd z (fw_m1 (by omega)), fun z => nomatch z⟩
theorem fb_but1 {b n i : Nat} (h : b + n < 2 ^ 31) (hi : i < n) : fb_butI b n (some i) (nI (b + i)) := by
  intro j hj
  rw [nI_eq (by omega) (by omega)]
  exact ⟨fun e => congrArg some (by omega), fun e => by cases e; rfl⟩
theorem fb_enc_inj {a b : Option (Nat × Nat)} (ha : ∀ x, a = some x → x.1 < 20 ∧ x.2 < 64) (hb : ∀ x, b = some x → x.1 < 20 ∧ x.2 < 64) : fb_enc a = fb_enc b ↔ a = b := by
  refine ⟨fun e => ?_, fun e => by rw [e]⟩
  cases a with
  | none =>
    cases b with
    | none => rfl
    | some y =>
      have := hb y rfl
      exact absurd e.symm (fw_m1 (by omega))
  | some x =>
    have hx := ha x rfl
    cases b with
    | none => exact absurd e (fw_m1 (by omega))
    | some y =>
      have hy := hb y rfl
      have e2 : 64 * x.1 + x.2 = 64 * y.1 + y.2 := (nI_eq (by omega) (by omega)).mp e
      have e3 : x.1 = y.1 := by omega
      have e4 : x.2 = y.2 := by omega
      exact congrArg some (Prod.ext e3 e4)
theorem fb_go_n {T : fb_Tab} {p h : Nat} {but : Option Nat} (hf : fb_first T (p / 4) h but = none) : fb_go T p h but = none := by
  unfold fb_go
  rw [hf]
theorem fb_go_4 {T : fb_Tab} {p h i : Nat} {but : Option Nat} (hf : fb_first T (p / 4) h but = some i) (h4 : T.2.2.1 (p / 4) i = 4) : fb_go T p h but = none := by
  unfold fb_go
  rw [hf]
  exact if_pos h4
theorem fb_go_5 {T : fb_Tab} {p h i : Nat} {but : Option Nat} (hf : fb_first T (p / 4) h but = some i) (h5 : T.2.2.1 (p / 4) i = 5) : fb_go T p h but = some (p, fb_nh h (T.2.2.2 (p / 4) i)) := by
  unfold fb_go
  rw [hf]
  refine (if_neg (by omega)).trans ?_
  rw [if_pos h5]
theorem fb_go_o {T : fb_Tab} {p h i : Nat} {but : Option Nat} (hf : fb_first T (p / 4) h but = some i) (h4 : ¬ T.2.2.1 (p / 4) i = 4) (h5 : ¬ T.2.2.1 (p / 4) i = 5) : fb_go T p h but = some (p / 4 * 4 + T.2.2.1 (p / 4) i, fb_nh h (T.2.2.2 (p / 4) i)) := by
  unfold fb_go
  rw [hf]
  refine (if_neg h4).trans ?_
  rw [if_neg h5]
theorem fb_fate_n {T : fb_Tab} {pe : Nat → Int32} {n p h : Nat} (hg : fb_go T p h none = none) : fb_fate T pe (n + 1) p h = 1 := by
  rw [fb_fate, hg]
theorem fb_fate_d {T : fb_Tab} {pe : Nat → Int32} {n p h : Nat} {x : Nat × Nat} (hg : fb_go T p h none = some x) (hn : pe x.1 = -1) : fb_fate T pe (n + 1) p h = nI (100 + x.1) := by
  rw [fb_fate, hg]
  exact if_pos hn
theorem fb_fate_g {T : fb_Tab} {pe : Nat → Int32} {n p h b : Nat} {x : Nat × Nat} (hg : fb_go T p h none = some x) (hn : ¬ pe x.1 = -1) (hb : b < 20) (eb : pe x.1 = nI b) : fb_fate T pe (n + 1) p h = fb_fate T pe n b x.2 := by
  rw [fb_fate, hg]
  refine (if_neg hn).trans ?_
  rw [eb, nI_clamp (by omega)]
theorem fb_sees_s {T : fb_Tab} {pe : Nat → Int32} {s n p h : Nat} (hq : p / 4 = s) : fb_sees T pe s (n + 1) p h = true := by
  rw [fb_sees]
  exact if_pos hq
theorem fb_sees_n {T : fb_Tab} {pe : Nat → Int32} {s n p h : Nat} (hq : ¬ p / 4 = s) (hg : fb_go T p h none = none) : fb_sees T pe s (n + 1) p h = false := by
  rw [fb_sees, hg]
  exact if_neg hq
theorem fb_sees_d {T : fb_Tab} {pe : Nat → Int32} {s n p h : Nat} {x : Nat × Nat} (hq : ¬ p / 4 = s) (hg : fb_go T p h none = some x) (hn : pe x.1 = -1) : fb_sees T pe s (n + 1) p h = false := by
  rw [fb_sees, hg]
  exact (if_neg hq).trans (if_pos hn)
theorem fb_sees_g {T : fb_Tab} {pe : Nat → Int32} {s n p h b : Nat} {x : Nat × Nat} (hq : ¬ p / 4 = s) (hg : fb_go T p h none = some x) (hn : ¬ pe x.1 = -1) (hb : b < 20) (eb : pe x.1 = nI b) : fb_sees T pe s (n + 1) p h = fb_sees T pe s n b x.2 := by
  rw [fb_sees, hg]
  refine (if_neg hq).trans ((if_neg hn).trans ?_)
  rw [eb, nI_clamp (by omega)]
section
variable {fA : Int32} {pe ls rm ra rc st pl hd tX tr : Nat → Int32}
theorem fx_dec3 {post : Int32 → Prop} {t s h : Nat} {but : Option Nat} {bx : Int32} {T : fb_Tab} (R : fb_rep ls rm ra rc t T) (ht : t < 4) (hs : s < 5) (hb : fb_butI (6 * (5 * t + s)) (T.1 s) but bx) :
    ∀ d i, i + d = T.1 s → post (fb_ri (6 * (5 * t + s)) (fb_find (fb_ff T s h but) d i)) → ∀ n, d < n → wX_decidingRule_3 post (nI (5 * t + s)) (nI h) bx fA pe ls rm ra rc st pl hd tX tr n (nI i) := by
  obtain ⟨h6, hl, hm, _, _⟩ := R s hs
  have hin : vp_in (nI (5 * t + s)) 20 := vp_in_nI (by omega) (by omega)
  have hcl : (nI (5 * t + s)).toNatClampNeg = 5 * t + s := nI_clamp (by omega)
  intro d
  induction d with
  | zero =>
    intro i hi hp n hn
    obtain ⟨m, rfl⟩ : ∃ m, n = m + 1 := ⟨n - 1, by omega⟩
    refine And.intro hin (br_t ?_ hp)
    rw [hcl, hl]
    exact nI_le (by omega) (by omega)
  | succ d ih =>
    intro i hi hp n hn
    obtain ⟨m, rfl⟩ : ∃ m, n = m + 1 := ⟨n - 1, by omega⟩
    have hi' : i < T.1 s := by omega
    obtain ⟨em, hm4⟩ := hm i hi'
    have eq1 : nI (5 * t + s) * 6 + nI i = nI (6 * (5 * t + s) + i) := by
      rw [show (6 : Int32) = nI 6 from rfl, pk_mul, nI_add]
      exact congrArg nI (by omega)
    have hc : (nI (6 * (5 * t + s) + i)).toNatClampNeg = 6 * (5 * t + s) + i := nI_clamp (by omega)
    have hv : vp_in (nI (6 * (5 * t + s) + i)) 120 := vp_in_nI (by omega) (by omega)
    have e6 : rm (nI (6 * (5 * t + s) + i)).toNatClampNeg / 64 = nI (T.2.1 s i / 64) := by
      rw [hc, em]
      exact pk_div (d := 64) (by omega) (by omega) (by omega)
    have e7 : rm (nI (6 * (5 * t + s) + i)).toNatClampNeg - rm (nI (6 * (5 * t + s) + i)).toNatClampNeg / 64 * 64 = nI (T.2.1 s i % 64) := by
      rw [hc, em]
      exact pk_rem (d := 64) (by omega) (by omega) (by omega)
    refine And.intro hin (br_f ?_ (nm_r eq1 ⟨hv, by decide, nm_r e6 ⟨hv, by decide, nm_r e7 ?_⟩⟩))
    · rw [hcl, hl]
      exact nI_ge (by omega) (by omega)
    · by_cases hbt : but = some i
      · rw [fb_find_f (fb_ff_b hbt)] at hp
        exact br_t ((hb i hi').mpr hbt) (nm_r (nI_1 i) (ih (i + 1) (by omega) hp m (by omega)))
      · refine br_f (fun z => hbt ((hb i hi').mp z)) ?_
        rw [nx_xor, nx_and]
        by_cases hft : (h ^^^ (T.2.1 s i % 64)) &&& (T.2.1 s i / 64) = 0
        · rw [fb_find_t (fb_ff_t hbt hft)] at hp
          refine br_t ?_ hp
          rw [hft]
          rfl
        · rw [fb_find_f (fb_ff_f hft)] at hp
          have hlt : (h ^^^ (T.2.1 s i % 64)) &&& (T.2.1 s i / 64) ≤ T.2.1 s i / 64 := Nat.and_le_right
          exact br_f (nI_ne0 (by omega) (by omega)) (nm_r (nI_1 i) (ih (i + 1) (by omega) hp m (by omega)))
theorem fx_dec {post : Int32 → Prop} {x y bx : Int32} (t s h : Nat) (ex : x = nI (5 * t + s)) (ey : y = nI h) {but : Option Nat} {T : fb_Tab} (R : fb_rep ls rm ra rc t T) (ht : t < 4) (hs : s < 5)
    (hb : fb_butI (6 * (5 * t + s)) (T.1 s) but bx) (hn : fb_first T s h but = none → post (-1)) (hp : ∀ i, i < T.1 s → fb_first T s h but = some i → post (nI (6 * (5 * t + s) + i))) :
    wpX_decidingRule post (fA, pe, ls, rm, ra, rc, st, pl, hd, tX, tr) x y bx := by
  subst ex ey
  unfold wpX_decidingRule
  refine ⟨T.1 s + 1, fx_dec3 (t := t) (s := s) (h := h) (but := but) R ht hs hb (T.1 s) 0 (by omega) ?_ _ (by omega)⟩
  rw [← fb_first_e]
  cases hf : fb_first T s h but with
  | none => exact hn hf
  | some i => exact hp i (fb_first_lt hf) hf
theorem fx_go94 {post : Int32 → Prop} {z : Int32} (o h c : Nat) (ez : z = nI o) (hh : h < 64) (hc : c < 4096) (hp : post (nI (64 * o + fb_nh h c))) :
    wX_goingOut_94 post (nI h) (nI (c / 64)) (nI (c % 64)) z fA pe ls rm ra rc st pl hd tX tr := by
  have e : z * 64 + ((nI h &&& (nI (c / 64) ^^^ (-1))) ||| (nI (c % 64) &&& nI (c / 64))) = nI (64 * o + fb_nh h c) := by
    rw [fb_not (c / 64) (by omega) h hh, nx_and, fb_or, ez, show (64 : Int32) = nI 64 from rfl, pk_mul, nI_add]
    refine congrArg nI ?_
    unfold fb_nh
    omega
  unfold wX_goingOut_94
  rw [e]
  exact hp
theorem fx_go {post : Int32 → Prop} {x y z w : Int32} (t p h : Nat) (ex : x = nI t) (ey : y = nI p) (ez : z = nI h) {but : Option Nat} {T : fb_Tab} (R : fb_rep ls rm ra rc t T) (ht : t < 4) (hp20 : p < 20) (hh : h < 64)
    (hb : fb_butI (6 * (5 * t + p / 4)) (T.1 (p / 4)) but w) (hp : post (fb_enc (fb_go T p h but))) : wpX_goingOut post (fA, pe, ls, rm, ra, rc, st, pl, hd, tX, tr) x y z w := by
  subst ex ey ez
  obtain ⟨h6, hl, _, ha, hc⟩ := R (p / 4) (by omega)
  unfold wpX_goingOut
  refine ⟨by decide, nm_r (e' := nI (p / 4)) (pk_div (d := 4) (by omega) (by omega) (by omega)) (fx_lo t (p / 4) rfl rfl (fx_dec t (p / 4) h rfl rfl R ht (by omega) hb ?_ ?_))⟩
  · intro hf
    rw [fb_go_n hf] at hp
    exact br_t rfl hp
  · intro i hi hf
    obtain ⟨ea, ha6⟩ := ha i hi
    obtain ⟨ec, hc4⟩ := hc i hi
    have hcl : (nI (6 * (5 * t + p / 4) + i)).toNatClampNeg = 6 * (5 * t + p / 4) + i := nI_clamp (by omega)
    have hv : vp_in (nI (6 * (5 * t + p / 4) + i)) 120 := vp_in_nI (by omega) (by omega)
    rw [hcl, ea, ec]
    refine br_f (fw_m1 (by omega)) ⟨hv, pk_eq (T.2.2.1 (p / 4) i) 4 (fun e4 => ?_) (fun e4 => ⟨hv, by decide, nm_r (pk_div (d := 64) (by omega) (by omega) (by omega)) ⟨hv, by decide, nm_r (pk_rem (d := 64) (by omega) (by omega) (by omega)) ⟨hv, pk_eq (T.2.2.1 (p / 4) i) 5 (fun e5 => ?_) (fun e5 => ⟨hv, ?_⟩)⟩⟩⟩)⟩
    · rw [fb_go_4 hf e4] at hp
      exact hp
    · rw [fb_go_5 hf e5] at hp
      exact fx_go94 p h _ rfl hh hc4 hp
    · rw [fb_go_o hf e4 e5] at hp
      refine fx_go94 (p / 4 * 4 + T.2.2.1 (p / 4) i) h _ ?_ hh hc4 hp
      rw [show (4 : Int32) = nI 4 from rfl, pk_mul, nI_add]
theorem fx_goc {post : Int32 → Prop} {x y z : Int32} (t p h : Nat) (ex : x = nI t) (ey : y = nI p) (ez : z = nI h) {T : fb_Tab} (R : fb_rep ls rm ra rc t T) (ht : t < 4) (hp20 : p < 20) (hh : h < 64)
    (hn : fb_go T p h none = none → post (-1)) (hp : ∀ x, fb_go T p h none = some x → x.1 < 20 → x.2 < 64 → post (nI (64 * x.1 + x.2))) : wpX_goingOut post (fA, pe, ls, rm, ra, rc, st, pl, hd, tX, tr) x y z (-1) := by
  have h6 := (R (p / 4) (by omega)).1
  refine fx_go t p h ex ey ez (but := none) R ht hp20 hh (fb_but0 (by omega)) ?_
  cases hg : fb_go T p h none with
  | none => exact hn hg
  | some x => exact hp x hg (fb_go_lt (fb_rep_ok R) hp20 hh hg).1 (fb_go_lt (fb_rep_ok R) hp20 hh hg).2
theorem fx_div {o h : Nat} (ho : o < 20) (hh : h < 64) : nI (64 * o + h) / 64 = nI o := by
  refine (pk_div (d := 64) (by omega) (by omega) (by omega)).trans ?_
  exact congrArg nI (by omega)
theorem fx_rem {o h : Nat} (ho : o < 20) (hh : h < 64) : nI (64 * o + h) - nI (64 * o + h) / 64 * 64 = nI h := by
  refine (pk_rem (d := 64) (by omega) (by omega) (by omega)).trans ?_
  exact congrArg nI (by omega)
theorem fx_f18 {post : Int32 → Prop} {t : Nat} {T : fb_Tab} (R : fb_rep ls rm ra rc t T) (ht : t < 4) (hpe : fb_pok pe) :
    ∀ d k p h, k + d = 16 → p < 20 → h < 64 → post (fb_fate T pe d p h) → ∀ n, d < n → wX_fate_18 post (nI t) fA pe ls rm ra rc st pl hd tX tr n (nI p) (nI h) (nI k) := by
  intro d
  induction d with
  | zero =>
    intro k p h hk hp20 hh hp n hn
    obtain ⟨m, rfl⟩ : ∃ m, n = m + 1 := ⟨n - 1, by omega⟩
    exact br_t (nI_le (a := 16) (by omega) (by omega)) hp
  | succ d ih =>
    intro k p h hk hp20 hh hp n hn
    obtain ⟨m, rfl⟩ : ∃ m, n = m + 1 := ⟨n - 1, by omega⟩
    refine br_f (nI_ge (b := 16) (by omega) (by omega)) (fx_goc t p h rfl rfl rfl R ht hp20 hh ?_ ?_)
    · intro hg
      rw [fb_fate_n hg] at hp
      exact br_t rfl hp
    · intro x hg ho hh'
      refine br_f (fw_m1 (by omega)) ⟨by decide, nm_r (fx_div ho hh') ⟨vp_in_nI ho (by omega), ?_⟩⟩
      rw [nI_clamp (by omega)]
      by_cases hno : pe x.1 = -1
      · rw [fb_fate_d hg hno] at hp
        refine br_t hno ?_
        rw [show (100 : Int32) + nI x.1 = nI (100 + x.1) from nI_add 100 x.1]
        exact hp
      · obtain ⟨b, hb, eb⟩ := fb_pe_on hpe ho hno
        rw [fb_fate_g hg hno hb eb] at hp
        exact br_f hno ⟨vp_in_nI ho (by omega), nm_r eb ⟨by decide, nm_r (fx_rem ho hh') (nm_r (nI_1 k) (ih (k + 1) b x.2 (by omega) hb hh' hp m (by omega)))⟩⟩
theorem fx_to {post : Int32 → Prop} {f t : Nat} (hf : f < 40) (e : (f < 20 ∧ fA = nI t) ∨ (20 ≤ f ∧ t = 3)) (hp : post (nI t)) : wpX_tableOf post (fA, pe, ls, rm, ra, rc, st, pl, hd, tX, tr) (nI f) := by
  unfold wpX_tableOf
  rcases e with ⟨h1, h2⟩ | ⟨h1, h2⟩
  · refine br_f (nI_ge (b := 20) (by omega) (by omega)) ?_
    rw [h2]
    exact hp
  · subst h2
    exact br_t (nI_le (a := 20) (by omega) (by omega)) hp
theorem fx_fate {post : Int32 → Prop} {f t h : Nat} {T : fb_Tab} (R : fb_rep ls rm ra rc t T) (ht : t < 4) (hpe : fb_pok pe) (hf : f < 40) (hh : h < 64) (e : (f < 20 ∧ fA = nI t) ∨ (20 ≤ f ∧ t = 3))
    (hp : post (fb_fate T pe 16 (f % 20) h)) : wpX_fate post (fA, pe, ls, rm, ra, rc, st, pl, hd, tX, tr) (nI f) (nI h) := by
  unfold wpX_fate
  refine fx_to hf e ⟨by decide, nm_r (pk_rem (d := 20) (by omega) (by omega) (by omega)) ⟨17, ?_⟩⟩
  exact fx_f18 R ht hpe 16 0 (f % 20) h rfl (by omega) hh hp 17 (by omega)
theorem fx_c19 {post : Int32 → Prop} {t s : Nat} {T : fb_Tab} (R : fb_rep ls rm ra rc t T) (ht : t < 4) (hs : s < 5) (hpe : fb_pok pe) :
    ∀ d k p h, k + d = 16 → p < 20 → h < 64 → (fb_sees T pe s d p h = true → post 1) → (fb_sees T pe s d p h = false → post 0) → ∀ n, d < n → wX_comesTo_19 post (nI s) (nI t) fA pe ls rm ra rc st pl hd tX tr n (nI p) (nI h) (nI k) := by
  intro d
  induction d with
  | zero =>
    intro k p h hk hp20 hh hp1 hp0 n hn
    obtain ⟨m, rfl⟩ : ∃ m, n = m + 1 := ⟨n - 1, by omega⟩
    exact br_t (nI_le (a := 16) (by omega) (by omega)) (hp0 rfl)
  | succ d ih =>
    intro k p h hk hp20 hh hp1 hp0 n hn
    obtain ⟨m, rfl⟩ : ∃ m, n = m + 1 := ⟨n - 1, by omega⟩
    refine br_f (nI_ge (b := 16) (by omega) (by omega)) ⟨by decide, ?_⟩
    rw [show nI p / 4 = nI (p / 4) from pk_div (d := 4) (by omega) (by omega) (by omega)]
    refine pk_eq (p / 4) s (fun hq => hp1 (fb_sees_s hq)) (fun hq => fx_goc t p h rfl rfl rfl R ht hp20 hh ?_ ?_)
    · intro hg
      exact br_t rfl (hp0 (fb_sees_n hq hg))
    · intro x hg ho hh'
      rw [fx_div ho hh', nI_clamp (by omega)]
      refine br_f (fw_m1 (by omega)) ⟨by decide, vp_in_nI ho (by omega), ?_⟩
      by_cases hno : pe x.1 = -1
      · exact br_t hno (hp0 (fb_sees_d hq hg hno))
      · obtain ⟨b, hb, eb⟩ := fb_pe_on hpe ho hno
        rw [fb_sees_g hq hg hno hb eb] at hp1 hp0
        refine br_f hno ⟨by decide, vp_in_nI ho (by omega), nm_r eb ⟨by decide, nm_r (e' := nI x.2) ?_ (nm_r (nI_1 k) (ih (k + 1) b x.2 (by omega) hb hh' hp1 hp0 m (by omega)))⟩⟩
        have hr := fx_rem ho hh'
        rw [fx_div ho hh'] at hr
        exact hr
theorem fx_comes {post : Int32 → Prop} {f t s h : Nat} {T : fb_Tab} (R : fb_rep ls rm ra rc t T) (ht : t < 4) (hs : s < 5) (hpe : fb_pok pe) (hf : f < 40) (hh : h < 64) (e : (f < 20 ∧ fA = nI t) ∨ (20 ≤ f ∧ t = 3))
    (hp1 : fb_sees T pe s 16 (f % 20) h = true → post 1) (hp0 : fb_sees T pe s 16 (f % 20) h = false → post 0) : wpX_comesTo post (fA, pe, ls, rm, ra, rc, st, pl, hd, tX, tr) (nI f) (nI h) (nI s) := by
  unfold wpX_comesTo
  refine fx_to hf e ⟨by decide, nm_r (pk_rem (d := 20) (by omega) (by omega) (by omega)) ⟨17, ?_⟩⟩
  exact fx_c19 R ht hs hpe 16 0 (f % 20) h rfl (by omega) hh hp1 hp0 17 (by omega)
end
