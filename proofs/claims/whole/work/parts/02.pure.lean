/-! pure: scans, counts, tables, treatments, fates -/
def fb_find (f : Nat → Bool) : Nat → Nat → Option Nat
  | 0, _ => none
  | d + 1, i => if f i = true then some i else fb_find f d (i + 1)
theorem fb_find_t {f : Nat → Bool} {d i : Nat} (h : f i = true) : fb_find f (d + 1) i = some i := by
  unfold fb_find
  exact if_pos h
theorem fb_find_f {f : Nat → Bool} {d i : Nat} (h : ¬ f i = true) : fb_find f (d + 1) i = fb_find f d (i + 1) := by
  rw [fb_find]
  exact if_neg h
theorem fb_find_some {f : Nat → Bool} : ∀ {d i j : Nat}, fb_find f d i = some j → i ≤ j ∧ j < i + d ∧ f j = true := by
  intro d
  induction d with
  | zero => intro i j h; cases h
  | succ d ih =>
    intro i j h
    by_cases hf : f i = true
    · rw [fb_find_t hf] at h
      cases h
      exact ⟨Nat.le_refl _, by omega, hf⟩
    · rw [fb_find_f hf] at h
      have := ih h
      exact ⟨by omega, by omega, this.2.2⟩
theorem fb_find_none {f : Nat → Bool} : ∀ {d i : Nat}, fb_find f d i = none → ∀ j, i ≤ j → j < i + d → f j = false := by
  intro d
  induction d with
  | zero => intro i h j h1 h2; omega
  | succ d ih =>
    intro i h j h1 h2
    by_cases hf : f i = true
    · rw [fb_find_t hf] at h
      cases h
    · rw [fb_find_f hf] at h
      by_cases hj : j = i
      · subst hj
        exact Bool.eq_false_iff.mpr hf
      · exact ih h j (by omega) (by omega)
theorem fb_find_congr {f g : Nat → Bool} : ∀ {d i : Nat}, (∀ j, i ≤ j → j < i + d → f j = g j) → fb_find f d i = fb_find g d i := by
  intro d
  induction d with
  | zero => intro i h; rfl
  | succ d ih =>
    intro i h
    have e := h i (Nat.le_refl _) (by omega)
    have r := ih (i := i + 1) (fun j h1 h2 => h j (by omega) (by omega))
    unfold fb_find
    rw [e, r]
theorem fb_find_ex {f : Nat → Bool} {d i j : Nat} (h1 : i ≤ j) (h2 : j < i + d) (hf : f j = true) : (fb_find f d i).isSome = true := by
  cases h : fb_find f d i with
  | none => have := fb_find_none h j h1 h2; rw [hf] at this; cases this
  | some x => rfl
def fb_cnt (f : Nat → Bool) : Nat → Nat
  | 0 => 0
  | n + 1 => fb_cnt f n + (if f n = true then 1 else 0)
theorem fb_cnt_t {f : Nat → Bool} {n : Nat} (h : f n = true) : fb_cnt f (n + 1) = fb_cnt f n + 1 := by
  rw [fb_cnt, if_pos h]
theorem fb_cnt_f {f : Nat → Bool} {n : Nat} (h : ¬ f n = true) : fb_cnt f (n + 1) = fb_cnt f n := by
  rw [fb_cnt, if_neg h]
  rfl
theorem fb_cnt_le (f : Nat → Bool) : ∀ n, fb_cnt f n ≤ n := by
  intro n
  induction n with
  | zero => exact Nat.le_refl _
  | succ n ih =>
    by_cases h : f n = true
    · rw [fb_cnt_t h]; omega
    · rw [fb_cnt_f h]; omega
theorem fb_cnt_congr {f g : Nat → Bool} : ∀ {n : Nat}, (∀ j, j < n → f j = g j) → fb_cnt f n = fb_cnt g n := by
  intro n
  induction n with
  | zero => intro _; rfl
  | succ n ih =>
    intro h
    have e := h n (by omega)
    have r := ih (fun j hj => h j (by omega))
    rw [fb_cnt, fb_cnt, e, r]
/-- bits -/
theorem fb_or (a b : Nat) : nI a ||| nI b = nI (a ||| b) := by
  apply Int32.toBitVec_inj.1
  show BitVec.ofNat 32 a ||| BitVec.ofNat 32 b = BitVec.ofNat 32 (a ||| b)
  apply BitVec.eq_of_getLsbD_eq
  intro i hi
  simp [hi]
theorem fb_not : ∀ m, m < 64 → ∀ h, h < 64 → nI h &&& (nI m ^^^ (-1)) = nI (h &&& (63 - m)) := by
  decide +kernel
theorem fb_cand : ∀ c, c < 4096 → c &&& (c / 64) = (c % 64) &&& (c / 64) := by
  decide +kernel
theorem fb_sh1 : ∀ q, q < 5 → (1 : Int32) <<< (nI q &&& 31) = nI (2 ^ q) := by
  decide +kernel
theorem fb_sbit : ∀ a, a < 32 → ∀ s, s < 5 → (((nI a) >>> (nI s &&& 31)) &&& 1 = 1 ↔ a.testBit s = true) := by
  decide +kernel
theorem fb_tbit : ∀ a, a < 32 → ∀ q, q < 5 → ∀ s, s < 5 → (a ||| 2 ^ q).testBit s = (a.testBit s || decide (q = s)) := by
  decide +kernel
theorem fb_or32 : ∀ a, a < 32 → ∀ q, q < 5 → (a ||| 2 ^ q) < 32 := by
  decide +kernel
def fb_nh (h c : Nat) : Nat := (h &&& (63 - c / 64)) ||| ((c % 64) &&& (c / 64))
theorem fb_nh_lt {h c : Nat} (hh : h < 64) : fb_nh h c < 64 := by
  have a : h &&& (63 - c / 64) < 2 ^ 6 := Nat.lt_of_le_of_lt Nat.and_le_left hh
  have b : (c % 64) &&& (c / 64) < 2 ^ 6 := Nat.lt_of_le_of_lt Nat.and_le_left (by omega)
  exact Nat.or_lt_two_pow a b
/-- an abstract table: sizes; matches, actions, changes by switch and number -/
abbrev fb_Tab : Type := (Nat → Nat) × (Nat → Nat → Nat) × (Nat → Nat → Nat) × (Nat → Nat → Nat)
def fb_fit (m h : Nat) : Bool := decide ((h ^^^ (m % 64)) &&& (m / 64) = 0)
def fb_first (T : fb_Tab) (s h : Nat) (but : Option Nat) : Option Nat := fb_find (fun i => decide (but ≠ some i) && fb_fit (T.2.1 s i) h) (T.1 s) 0
def fb_go (T : fb_Tab) (p h : Nat) (but : Option Nat) : Option (Nat × Nat) :=
  match fb_first T (p / 4) h but with
  | none => none
  | some i => if T.2.2.1 (p / 4) i = 4 then none else some (if T.2.2.1 (p / 4) i = 5 then p else p / 4 * 4 + T.2.2.1 (p / 4) i, fb_nh h (T.2.2.2 (p / 4) i))
def fb_fate (T : fb_Tab) (pe : Nat → Int32) : Nat → Nat → Nat → Int32
  | 0, _, _ => 2
  | n + 1, p, h => match fb_go T p h none with
    | none => 1
    | some x => if pe x.1 = -1 then nI (100 + x.1) else fb_fate T pe n (pe x.1).toNatClampNeg x.2
def fb_sees (T : fb_Tab) (pe : Nat → Int32) (s : Nat) : Nat → Nat → Nat → Bool
  | 0, _, _ => false
  | n + 1, p, h => if p / 4 = s then true else match fb_go T p h none with
    | none => false
    | some x => if pe x.1 = -1 then false else fb_sees T pe s n (pe x.1).toNatClampNeg x.2
def fb_seen (T : fb_Tab) (pe : Nat → Int32) : Nat → Nat → Nat → Nat → Nat
  | 0, _, _, a => a
  | n + 1, p, h, a => match fb_go T p h none with
    | none => a ||| 2 ^ (p / 4)
    | some x => if pe x.1 = -1 then a ||| 2 ^ (p / 4) else fb_seen T pe n (pe x.1).toNatClampNeg x.2 (a ||| 2 ^ (p / 4))
def fb_ok (T : fb_Tab) : Prop := ∀ s, s < 5 → T.1 s ≤ 6 ∧ ∀ i, i < T.1 s → T.2.1 s i < 4096 ∧ T.2.2.1 s i < 6 ∧ T.2.2.2 s i < 4096
def fb_pok (pe : Nat → Int32) : Prop := ∀ a, a < 20 → pe a = -1 ∨ ∃ b, b < 20 ∧ pe a = nI b
theorem fb_first_lt {T : fb_Tab} {s h i : Nat} {but : Option Nat} (e : fb_first T s h but = some i) : i < T.1 s := by
  have := (fb_find_some e).2.1
  omega
theorem fb_go_lt {T : fb_Tab} (ok : fb_ok T) {p h : Nat} {but : Option Nat} (hp : p < 20) (hh : h < 64) {x : Nat × Nat} (e : fb_go T p h but = some x) : x.1 < 20 ∧ x.2 < 64 := by
  unfold fb_go at e
  cases hf : fb_first T (p / 4) h but with
  | none => rw [hf] at e; cases e
  | some i =>
    rw [hf] at e
    have hi := fb_first_lt hf
    have hr := ((ok (p / 4) (by omega)).2 i hi).2.1
    dsimp only at e
    by_cases h4 : T.2.2.1 (p / 4) i = 4
    · rw [if_pos h4] at e; cases e
    · rw [if_neg h4] at e
      cases e
      refine ⟨?_, fb_nh_lt hh⟩
      dsimp only
      by_cases h5 : T.2.2.1 (p / 4) i = 5
      · rw [if_pos h5]; exact hp
      · rw [if_neg h5]; omega
theorem fb_pe_on {pe : Nat → Int32} (hpe : fb_pok pe) {o : Nat} (ho : o < 20) (h : ¬ pe o = -1) : ∃ b, b < 20 ∧ pe o = nI b := by
  cases hpe o ho with
  | inl x => exact absurd x h
  | inr x => exact x
theorem fb_seen_spec {T : fb_Tab} {pe : Nat → Int32} (ok : fb_ok T) (hpe : fb_pok pe) {s : Nat} (hs : s < 5) : ∀ n p h a, p < 20 → h < 64 → a < 32 →
    fb_seen T pe n p h a < 32 ∧ (fb_seen T pe n p h a).testBit s = (a.testBit s || fb_sees T pe s n p h) := by
  intro n
  induction n with
  | zero =>
    intro p h a _ _ ha
    refine ⟨ha, ?_⟩
    show a.testBit s = (a.testBit s || false)
    rw [Bool.or_false]
  | succ n ih =>
    intro p h a hp hh ha
    have h32 := fb_or32 a ha (p / 4) (by omega)
    have htb := fb_tbit a ha (p / 4) (by omega) s hs
    cases hg : fb_go T p h none with
    | none =>
      simp only [fb_seen, fb_sees, hg]
      refine ⟨h32, ?_⟩
      rw [htb]
      by_cases hq : p / 4 = s
      · simp [hq]
      · simp [hq]
    | some x =>
      have hx := fb_go_lt ok hp hh hg
      simp only [fb_seen, fb_sees, hg]
      by_cases hn : pe x.1 = -1
      · rw [if_pos hn, if_pos hn]
        refine ⟨h32, ?_⟩
        rw [htb]
        by_cases hq : p / 4 = s
        · simp [hq]
        · simp [hq]
      · rw [if_neg hn, if_neg hn]
        obtain ⟨b, hb, eb⟩ := fb_pe_on hpe hx.1 hn
        rw [eb, nI_clamp (by omega)]
        have r := ih b x.2 (a ||| 2 ^ (p / 4)) hb hx.2 h32
        refine ⟨r.1, ?_⟩
        rw [r.2, htb]
        by_cases hq : p / 4 = s
        · simp [hq]
        · simp [hq]
