section
theorem pk_us {f : Nat → Int32} {k : Nat} {x : Int32} : upd f k x k = x := if_pos rfl
theorem pk_un {f : Nat → Int32} {k j : Nat} {x : Int32} (h : j ≠ k) : upd f k x j = f j := if_neg h
theorem pk_sub {a b : Nat} (h : b ≤ a) : nI a - nI b = nI (a - b) := by
  obtain ⟨c, rfl⟩ : ∃ c, a = c + b := ⟨a - b, by omega⟩
  rw [← nI_add, Int32.add_sub_cancel, Nat.add_sub_cancel]
theorem pk_m1 (n : Nat) : nI (n + 1) + (-1) = nI n := by
  rw [← nI_1, Int32.add_assoc, show (1 : Int32) + (-1) = 0 from rfl, Int32.add_zero]
theorem pk_mul (a b : Nat) : nI a * nI b = nI (a * b) := (Int32.ofNat_mul a b).symm
theorem pk_div {a d : Nat} (ha : a < 2 ^ 31) (h0 : 0 < d) (hd : d < 2 ^ 31) : nI a / nI d = nI (a / d) := by
  apply Int32.toInt_inj.mp
  rw [lg_idiv_nonneg (by rw [nI_toInt ha]; omega) (by rw [nI_toInt hd]; omega), nI_toInt ha, nI_toInt hd, nI_toInt (Nat.lt_of_le_of_lt (Nat.div_le_self a d) ha)]
  first | rfl | exact (Int.natCast_ediv _ _).symm
theorem pk_rem {a d : Nat} (ha : a < 2 ^ 31) (h0 : 0 < d) (hd : d < 2 ^ 31) : nI a - nI a / nI d * nI d = nI (a % d) := by
  rw [pk_div ha h0 hd, pk_mul, pk_sub (Nat.div_mul_le_self a d)]
  exact congrArg nI (by have := Nat.div_add_mod' a d; omega)
theorem pk_ix (x : Int32) {n : Nat} (hn : n < 2 ^ 31) : x < 0 ∨ nI n ≤ x ∨ ∃ j : Nat, j < n ∧ x = nI j := by
  by_cases h : x < 0
  · exact Or.inl h
  · obtain ⟨j, hj, rfl⟩ := nI_of h
    by_cases h2 : j < n
    · exact Or.inr (Or.inr ⟨j, h2, rfl⟩)
    · exact Or.inr (Or.inl (nI_le (by omega) hj))
theorem pk_le {x y : Int32} {A B : Prop} (a b : Nat) (f : a ≤ b → A) (g : b < a → B) (hx : x = nI a := by rfl) (hy : y = nI b := by rfl) (ha : a < 2 ^ 31 := by omega) (hb : b < 2 ^ 31 := by omega) : (x ≤ y → A) ∧ (¬ x ≤ y → B) := by
  subst hx hy
  rw [nI_leI ha hb]
  exact ⟨f, fun z => g (by omega)⟩
theorem pk_lt {x y : Int32} {A B : Prop} (a b : Nat) (f : a < b → A) (g : b ≤ a → B) (hx : x = nI a := by rfl) (hy : y = nI b := by rfl) (ha : a < 2 ^ 31 := by omega) (hb : b < 2 ^ 31 := by omega) : (x < y → A) ∧ (¬ x < y → B) := by
  subst hx hy
  rw [nI_ltI ha hb]
  exact ⟨f, fun z => g (by omega)⟩
theorem pk_eq {x y : Int32} {A B : Prop} (a b : Nat) (f : a = b → A) (g : a ≠ b → B) (hx : x = nI a := by rfl) (hy : y = nI b := by rfl) (ha : a < 2 ^ 31 := by omega) (hb : b < 2 ^ 31 := by omega) : (x = y → A) ∧ (¬ x = y → B) := by
  subst hx hy
  rw [nI_eq ha hb]
  exact ⟨f, g⟩
theorem pk_in {x : Int32} (n N : Nat) (h : n < N) (hx : x = nI n := by rfl) (hN : N < 2 ^ 31 := by omega) : vp_in x N := by
  subst hx
  exact vp_in_nI h hN
theorem pk_cl {x : Int32} (n : Nat) (hx : x = nI n := by rfl) (h : n < 2 ^ 31 := by omega) : x.toNatClampNeg = n := by
  subst hx
  exact nI_clamp h
theorem pk_tn {n : Nat} (h : n < 2 ^ 32) : (nI n).toBitVec.toNat = n := Nat.mod_eq_of_lt h
theorem pk_and (x : Int32) {m : Int32} (k : Nat) (hm : m.toBitVec.toNat = 2 ^ k - 1) : x &&& m = nI (x.toBitVec.toNat % 2 ^ k) := by
  apply Int32.toBitVec_inj.mp
  apply BitVec.eq_of_toNat_eq
  rw [Int32.toBitVec_and, BitVec.toNat_and, hm, Nat.and_two_pow_sub_one_eq_mod]
  show _ = (BitVec.ofNat 32 _).toNat
  rw [BitVec.toNat_ofNat]
  exact (Nat.mod_eq_of_lt (Nat.lt_of_le_of_lt (Nat.mod_le _ _) x.toBitVec.isLt)).symm
theorem pk_andN {n : Nat} (h : n < 2 ^ 32) {m : Int32} (k : Nat) (hm : m.toBitVec.toNat = 2 ^ k - 1) : nI n &&& m = nI (n % 2 ^ k) := by
  rw [pk_and _ k hm, pk_tn h]
theorem pk_shl (a s : Int32) (k : Nat) (hs : (s.toBitVec.smod 32).toNat = k) : (a <<< s).toBitVec.toNat = a.toBitVec.toNat * 2 ^ k % 2 ^ 32 := by
  show (a.toBitVec <<< (s.toBitVec.smod 32).toNat).toNat = _
  rw [hs, BitVec.toNat_shiftLeft, Nat.shiftLeft_eq]
theorem pk_shlN {n : Nat} (s : Int32) (k : Nat) (hs : (s.toBitVec.smod 32).toNat = k) (h : n * 2 ^ k < 2 ^ 32) : nI n <<< s = nI (n * 2 ^ k) := by
  apply Int32.toBitVec_inj.mp
  apply BitVec.eq_of_toNat_eq
  have hn : n < 2 ^ 32 := Nat.lt_of_le_of_lt (Nat.le_mul_of_pos_right n (Nat.two_pow_pos k)) h
  rw [pk_shl _ _ k hs, pk_tn hn, pk_tn h, Nat.mod_eq_of_lt h]
theorem pk_shr (a s : Int32) (k : Nat) (hs : (s.toBitVec.smod 32).toNat = k) : (a >>> s).toInt = a.toInt >>> k := by
  show (a.toBitVec.sshiftRight (s.toBitVec.smod 32).toNat).toInt = _
  rw [hs, BitVec.toInt_sshiftRight]
  rfl
theorem pk_shrN {n : Nat} (h : n < 2 ^ 31) (s : Int32) (k : Nat) (hs : (s.toBitVec.smod 32).toNat = k) : nI n >>> s = nI (n / 2 ^ k) := by
  apply Int32.toInt_inj.mp
  have h2 : n / 2 ^ k ≤ n := Nat.div_le_self _ _
  rw [pk_shr _ _ k hs, nI_toInt h, nI_toInt (by omega), Int.shiftRight_eq_div_pow]
  rfl
theorem pk_loop {σ : Type} (W : Nat → Nat → σ → Prop) (I : Nat → σ → Prop) (e i0 : Nat) (s : σ) (hi : i0 ≤ e) (h0 : I i0 s) (hx : ∀ n s, I e s → W (n + 1) e s)
    (hs : ∀ n i s, i < e → I i s → (∀ s', I (i + 1) s' → W n (i + 1) s') → W (n + 1) i s) : ∃ n, W n i0 s :=
  ⟨e + 1, loop_i W I e hx hs (e + 1) i0 s hi (by omega) h0⟩
theorem pk_loopD {σ : Type} (W : Nat → Nat → σ → Prop) (I : Nat → σ → Prop) (hx : ∀ n s, I 0 s → W (n + 1) 0 s)
    (hs : ∀ n i s, I (i + 1) s → (∀ s', I i s' → W n i s') → W (n + 1) (i + 1) s) : ∀ (e : Nat) (s : σ), I e s → W (e + 1) e s := by
  intro e
  induction e with
  | zero => exact fun s h => hx 0 s h
  | succ e ih => exact fun s h => hs (e + 1) e s h (fun s' h' => ih s' h')
theorem nx_and (a b : Nat) : nI a &&& nI b = nI (a &&& b) := by
  apply Int32.toBitVec_inj.1
  show BitVec.ofNat 32 a &&& BitVec.ofNat 32 b = BitVec.ofNat 32 (a &&& b)
  apply BitVec.eq_of_getLsbD_eq
  intro i hi
  simp [hi]
theorem nx_xor (a b : Nat) : nI a ^^^ nI b = nI (a ^^^ b) := by
  apply Int32.toBitVec_inj.1
  show BitVec.ofNat 32 a ^^^ BitVec.ofNat 32 b = BitVec.ofNat 32 (a ^^^ b)
  apply BitVec.eq_of_getLsbD_eq
  intro i hi
  simp [hi]
end
section
/-! pure: scans, counts, tables, treatments, fates -/
def fb_find (f : Nat → Bool) : Nat → Nat → Option Nat
  | 0, _ => none
  | d + 1, i => if f i = true then some i else fb_find f d (i + 1)
theorem fb_find_t {f : Nat → Bool} {d i : Nat} (h : f i = true) : fb_find f (d + 1) i = some i := by
  unfold fb_find
  exact if_pos h
theorem fb_find_f {f : Nat → Bool} {d i : Nat} (h : ¬ f i = true) : fb_find f (d + 1) i = fb_find f d (i + 1) := by
  rw [fb_find]
  exact if_neg h
theorem fb_find_some {f : Nat → Bool} : ∀ {d i j : Nat}, fb_find f d i = some j → i ≤ j ∧ j < i + d ∧ f j = true := by
  intro d
  induction d with
  | zero => intro i j h; cases h
  | succ d ih =>
    intro i j h
    by_cases hf : f i = true
    · rw [fb_find_t hf] at h
      cases h
      exact ⟨Nat.le_refl _, by omega, hf⟩
    · rw [fb_find_f hf] at h
      have := ih h
      exact ⟨by omega, by omega, this.2.2⟩
theorem fb_find_none {f : Nat → Bool} : ∀ {d i : Nat}, fb_find f d i = none → ∀ j, i ≤ j → j < i + d → f j = false := by
  intro d
  induction d with
  | zero => intro i h j h1 h2; omega
  | succ d ih =>
    intro i h j h1 h2
    by_cases hf : f i = true
    · rw [fb_find_t hf] at h
      cases h
    · rw [fb_find_f hf] at h
      by_cases hj : j = i
      · subst hj
        exact Bool.eq_false_iff.mpr hf
      · exact ih h j (by omega) (by omega)
theorem fb_find_congr {f g : Nat → Bool} : ∀ {d i : Nat}, (∀ j, i ≤ j → j < i + d → f j = g j) → fb_find f d i = fb_find g d i := by
  intro d
  induction d with
  | zero => intro i h; rfl
  | succ d ih =>
    intro i h
    have e := h i (Nat.le_refl _) (by omega)
    have r := ih (i := i + 1) (fun j h1 h2 => h j (by omega) (by omega))
    unfold fb_find
    rw [e, r]
theorem fb_find_ex {f : Nat → Bool} {d i j : Nat} (h1 : i ≤ j) (h2 : j < i + d) (hf : f j = true) : (fb_find f d i).isSome = true := by
  cases h : fb_find f d i with
  | none => have := fb_find_none h j h1 h2; rw [hf] at this; cases this
  | some x => rfl
def fb_cnt (f : Nat → Bool) : Nat → Nat
  | 0 => 0
  | n + 1 => fb_cnt f n + (if f n = true then 1 else 0)
theorem fb_cnt_t {f : Nat → Bool} {n : Nat} (h : f n = true) : fb_cnt f (n + 1) = fb_cnt f n + 1 := by
  rw [fb_cnt, if_pos h]
theorem fb_cnt_f {f : Nat → Bool} {n : Nat} (h : ¬ f n = true) : fb_cnt f (n + 1) = fb_cnt f n := by
  rw [fb_cnt, if_neg h]
  rfl
theorem fb_cnt_le (f : Nat → Bool) : ∀ n, fb_cnt f n ≤ n := by
  intro n
  induction n with
  | zero => exact Nat.le_refl _
  | succ n ih =>
    by_cases h : f n = true
    · rw [fb_cnt_t h]; omega
    · rw [fb_cnt_f h]; omega
theorem fb_cnt_congr {f g : Nat → Bool} : ∀ {n : Nat}, (∀ j, j < n → f j = g j) → fb_cnt f n = fb_cnt g n := by
  intro n
  induction n with
  | zero => intro _; rfl
  | succ n ih =>
    intro h
    have e := h n (by omega)
    have r := ih (fun j hj => h j (by omega))
    rw [fb_cnt, fb_cnt, e, r]
/-- bits -/
theorem fb_or (a b : Nat) : nI a ||| nI b = nI (a ||| b) := by
  apply Int32.toBitVec_inj.1
  show BitVec.ofNat 32 a ||| BitVec.ofNat 32 b = BitVec.ofNat 32 (a ||| b)
  apply BitVec.eq_of_getLsbD_eq
  intro i hi
  simp [hi]
theorem fb_not : ∀ m, m < 64 → ∀ h, h < 64 → nI h &&& (nI m ^^^ (-1)) = nI (h &&& (63 - m)) := by
  decide +kernel
theorem fb_cand : ∀ c, c < 4096 → c &&& (c / 64) = (c % 64) &&& (c / 64) := by
  decide +kernel
theorem fb_sh1 : ∀ q, q < 5 → (1 : Int32) <<< (nI q &&& 31) = nI (2 ^ q) := by
  decide +kernel
theorem fb_sbit : ∀ a, a < 32 → ∀ s, s < 5 → (((nI a) >>> (nI s &&& 31)) &&& 1 = 1 ↔ a.testBit s = true) := by
  decide +kernel
theorem fb_tbit : ∀ a, a < 32 → ∀ q, q < 5 → ∀ s, s < 5 → (a ||| 2 ^ q).testBit s = (a.testBit s || decide (q = s)) := by
  decide +kernel
theorem fb_or32 : ∀ a, a < 32 → ∀ q, q < 5 → (a ||| 2 ^ q) < 32 := by
  decide +kernel
def fb_nh (h c : Nat) : Nat := (h &&& (63 - c / 64)) ||| ((c % 64) &&& (c / 64))
theorem fb_nh_lt {h c : Nat} (hh : h < 64) : fb_nh h c < 64 := by
  have a : h &&& (63 - c / 64) < 2 ^ 6 := Nat.lt_of_le_of_lt Nat.and_le_left hh
  have b : (c % 64) &&& (c / 64) < 2 ^ 6 := Nat.lt_of_le_of_lt Nat.and_le_left (by omega)
  exact Nat.or_lt_two_pow a b
/-- an abstract table: sizes; matches, actions, changes by switch and number -/
abbrev fb_Tab : Type := (Nat → Nat) × (Nat → Nat → Nat) × (Nat → Nat → Nat) × (Nat → Nat → Nat)
def fb_fit (m h : Nat) : Bool := decide ((h ^^^ (m % 64)) &&& (m / 64) = 0)
def fb_first (T : fb_Tab) (s h : Nat) (but : Option Nat) : Option Nat := fb_find (fun i => decide (but ≠ some i) && fb_fit (T.2.1 s i) h) (T.1 s) 0
def fb_go (T : fb_Tab) (p h : Nat) (but : Option Nat) : Option (Nat × Nat) :=
  match fb_first T (p / 4) h but with
  | none => none
  | some i => if T.2.2.1 (p / 4) i = 4 then none else some (if T.2.2.1 (p / 4) i = 5 then p else p / 4 * 4 + T.2.2.1 (p / 4) i, fb_nh h (T.2.2.2 (p / 4) i))
def fb_fate (T : fb_Tab) (pe : Nat → Int32) : Nat → Nat → Nat → Int32
  | 0, _, _ => 2
  | n + 1, p, h => match fb_go T p h none with
    | none => 1
    | some x => if pe x.1 = -1 then nI (100 + x.1) else fb_fate T pe n (pe x.1).toNatClampNeg x.2
def fb_sees (T : fb_Tab) (pe : Nat → Int32) (s : Nat) : Nat → Nat → Nat → Bool
  | 0, _, _ => false
  | n + 1, p, h => if p / 4 = s then true else match fb_go T p h none with
    | none => false
    | some x => if pe x.1 = -1 then false else fb_sees T pe s n (pe x.1).toNatClampNeg x.2
def fb_seen (T : fb_Tab) (pe : Nat → Int32) : Nat → Nat → Nat → Nat → Nat
  | 0, _, _, a => a
  | n + 1, p, h, a => match fb_go T p h none with
    | none => a ||| 2 ^ (p / 4)
    | some x => if pe x.1 = -1 then a ||| 2 ^ (p / 4) else fb_seen T pe n (pe x.1).toNatClampNeg x.2 (a ||| 2 ^ (p / 4))
def fb_ok (T : fb_Tab) : Prop := ∀ s, s < 5 → T.1 s ≤ 6 ∧ ∀ i, i < T.1 s → T.2.1 s i < 4096 ∧ T.2.2.1 s i < 6 ∧ T.2.2.2 s i < 4096
def fb_pok (pe : Nat → Int32) : Prop := ∀ a, a < 20 → pe a = -1 ∨ ∃ b, b < 20 ∧ pe a = nI b
theorem fb_first_lt {T : fb_Tab} {s h i : Nat} {but : Option Nat} (e : fb_first T s h but = some i) : i < T.1 s := by
  have := (fb_find_some e).2.1
  omega
theorem fb_go_lt {T : fb_Tab} (ok : fb_ok T) {p h : Nat} {but : Option Nat} (hp : p < 20) (hh : h < 64) {x : Nat × Nat} (e : fb_go T p h but = some x) : x.1 < 20 ∧ x.2 < 64 := by
  unfold fb_go at e
  cases hf : fb_first T (p / 4) h but with
  | none => rw [hf] at e; cases e
  | some i =>
    rw [hf] at e
    have hi := fb_first_lt hf
    have hr := ((ok (p / 4) (by omega)).2 i hi).2.1
    dsimp only at e
    by_cases h4 : T.2.2.1 (p / 4) i = 4
    · rw [if_pos h4] at e; cases e
    · rw [if_neg h4] at e
      cases e
      refine ⟨?_, fb_nh_lt hh⟩
      dsimp only
      by_cases h5 : T.2.2.1 (p / 4) i = 5
      · rw [if_pos h5]; exact hp
      · rw [if_neg h5]; omega
theorem fb_pe_on {pe : Nat → Int32} (hpe : fb_pok pe) {o : Nat} (ho : o < 20) (h : ¬ pe o = -1) : ∃ b, b < 20 ∧ pe o = nI b := by
  cases hpe o ho with
  | inl x => exact absurd x h
  | inr x => exact x
theorem fb_seen_spec {T : fb_Tab} {pe : Nat → Int32} (ok : fb_ok T) (hpe : fb_pok pe) {s : Nat} (hs : s < 5) : ∀ n p h a, p < 20 → h < 64 → a < 32 →
    fb_seen T pe n p h a < 32 ∧ (fb_seen T pe n p h a).testBit s = (a.testBit s || fb_sees T pe s n p h) := by
  intro n
  induction n with
  | zero =>
    intro p h a _ _ ha
    refine ⟨ha, ?_⟩
    show a.testBit s = (a.testBit s || false)
    rw [Bool.or_false]
  | succ n ih =>
    intro p h a hp hh ha
    have h32 := fb_or32 a ha (p / 4) (by omega)
    have htb := fb_tbit a ha (p / 4) (by omega) s hs
    cases hg : fb_go T p h none with
    | none =>
      simp only [fb_seen, fb_sees, hg]
      refine ⟨h32, ?_⟩
      rw [htb]
      by_cases hq : p / 4 = s
      · simp [hq]
      · simp [hq]
    | some x =>
      have hx := fb_go_lt ok hp hh hg
      simp only [fb_seen, fb_sees, hg]
      by_cases hn : pe x.1 = -1
      · rw [if_pos hn, if_pos hn]
        refine ⟨h32, ?_⟩
        rw [htb]
        by_cases hq : p / 4 = s
        · simp [hq]
        · simp [hq]
      · rw [if_neg hn, if_neg hn]
        obtain ⟨b, hb, eb⟩ := fb_pe_on hpe hx.1 hn
        rw [eb, nI_clamp (by omega)]
        have r := ih b x.2 (a ||| 2 ^ (p / 4)) hb hx.2 h32
        refine ⟨r.1, ?_⟩
        rw [r.2, htb]
        by_cases hq : p / 4 = s
        · simp [hq]
        · simp [hq]
end
section
/-! tables in arrays: what a row of rules holds, copying, shifting -/
def fb_row (f : Nat → Int32) (b n : Nat) (g : Nat → Nat) (B : Nat) : Prop := ∀ i, i < n → f (b + i) = nI (g i) ∧ g i < B
def fb_rep (ls rm ra rc : Nat → Int32) (t : Nat) (T : fb_Tab) : Prop := ∀ s, s < 5 → T.1 s ≤ 6 ∧ ls (5 * t + s) = nI (T.1 s) ∧
  fb_row rm (6 * (5 * t + s)) (T.1 s) (T.2.1 s) 4096 ∧ fb_row ra (6 * (5 * t + s)) (T.1 s) (T.2.2.1 s) 6 ∧ fb_row rc (6 * (5 * t + s)) (T.1 s) (T.2.2.2 s) 4096
theorem fb_rep_ok {ls rm ra rc : Nat → Int32} {t : Nat} {T : fb_Tab} (h : fb_rep ls rm ra rc t T) : fb_ok T := by
  intro s hs
  obtain ⟨h6, _, hm, ha, hc⟩ := h s hs
  exact ⟨h6, fun i hi => ⟨(hm i hi).2, (ha i hi).2, (hc i hi).2⟩⟩
theorem fb_row_fr {f f' : Nat → Int32} {b n B : Nat} {g : Nat → Nat} (h : fb_row f b n g B) (e : ∀ q, b ≤ q → q < b + n → f' q = f q) : fb_row f' b n g B := by
  intro i hi
  rw [e (b + i) (by omega) (by omega)]
  exact h i hi
theorem fb_rep_fr {ls rm ra rc ls' rm' ra' rc' : Nat → Int32} {t : Nat} {T : fb_Tab} (h : fb_rep ls rm ra rc t T)
    (e0 : ∀ q, 5 * t ≤ q → q < 5 * t + 5 → ls' q = ls q) (e1 : ∀ q, 30 * t ≤ q → q < 30 * t + 30 → rm' q = rm q)
    (e2 : ∀ q, 30 * t ≤ q → q < 30 * t + 30 → ra' q = ra q) (e3 : ∀ q, 30 * t ≤ q → q < 30 * t + 30 → rc' q = rc q) : fb_rep ls' rm' ra' rc' t T := by
  intro s hs
  obtain ⟨h6, hl, hm, ha, hc⟩ := h s hs
  refine ⟨h6, ?_, fb_row_fr hm ?_, fb_row_fr ha ?_, fb_row_fr hc ?_⟩
  · rw [e0 _ (by omega) (by omega)]; exact hl
  · exact fun q h1 h2 => e1 q (by omega) (by omega)
  · exact fun q h1 h2 => e2 q (by omega) (by omega)
  · exact fun q h1 h2 => e3 q (by omega) (by omega)
/-- n cells from a on, copied to b on -/
def fb_cp (a b : Nat) (f : Nat → Int32) (n : Nat) : Nat → Int32 := fun q => if b ≤ q ∧ q < b + n then f (a + (q - b)) else f q
theorem fb_cp_0 (a b : Nat) (f : Nat → Int32) : fb_cp a b f 0 = f := by
  funext q
  unfold fb_cp
  exact if_neg (by omega)
theorem fb_cp_src {a b w n : Nat} (f : Nat → Int32) (h : a + w ≤ b ∨ b + w ≤ a) (hn : n < w) : fb_cp a b f n (a + n) = f (a + n) := by
  unfold fb_cp
  exact if_neg (by omega)
theorem fb_cp_s {a b w n : Nat} (f : Nat → Int32) (h : a + w ≤ b ∨ b + w ≤ a) (hn : n < w) : upd (fb_cp a b f n) (b + n) (fb_cp a b f n (a + n)) = fb_cp a b f (n + 1) := by
  rw [fb_cp_src f h hn]
  funext q
  simp only [upd, fb_cp]
  by_cases hq : q = b + n
  · rw [if_pos hq, if_pos (by omega)]
    exact congrArg f (by omega)
  · rw [if_neg hq]
    by_cases h2 : b ≤ q ∧ q < b + n
    · rw [if_pos h2, if_pos (by omega)]
    · rw [if_neg h2, if_neg (by omega)]
theorem fb_cp_in {a b n q : Nat} (f : Nat → Int32) (h : q < n) : fb_cp a b f n (b + q) = f (a + q) := by
  simp only [fb_cp]
  rw [if_pos (by omega)]
  exact congrArg f (by omega)
theorem fb_cp_out {a b n q : Nat} (f : Nat → Int32) (h : q < b ∨ b + n ≤ q) : fb_cp a b f n q = f q := by
  unfold fb_cp
  exact if_neg (by omega)
theorem fb_row_cp {f : Nat → Int32} {a b n B s : Nat} {g : Nat → Nat} (hs : s < 5) (hn : n ≤ 6) (h : fb_row f (6 * (5 * a + s)) n g B) :
    fb_row (fb_cp (30 * a) (30 * b) f 30) (6 * (5 * b + s)) n g B := by
  intro i hi
  have e : 6 * (5 * b + s) + i = 30 * b + (6 * s + i) := by omega
  rw [e, fb_cp_in f (by omega), show 30 * a + (6 * s + i) = 6 * (5 * a + s) + i by omega]
  exact h i hi
theorem fb_rep_cp {ls rm ra rc : Nat → Int32} {a b : Nat} {T : fb_Tab} (h : fb_rep ls rm ra rc a T) :
    fb_rep (fb_cp (5 * a) (5 * b) ls 5) (fb_cp (30 * a) (30 * b) rm 30) (fb_cp (30 * a) (30 * b) ra 30) (fb_cp (30 * a) (30 * b) rc 30) b T := by
  intro s hs
  obtain ⟨h6, hl, hm, ha, hc⟩ := h s hs
  refine ⟨h6, ?_, fb_row_cp hs h6 hm, fb_row_cp hs h6 ha, fb_row_cp hs h6 hc⟩
  rw [fb_cp_in ls hs]
  exact hl
theorem fb_rep_cpn {ls rm ra rc : Nat → Int32} {a b t : Nat} {T : fb_Tab} (hne : t ≠ b) (h : fb_rep ls rm ra rc t T) :
    fb_rep (fb_cp (5 * a) (5 * b) ls 5) (fb_cp (30 * a) (30 * b) rm 30) (fb_cp (30 * a) (30 * b) ra 30) (fb_cp (30 * a) (30 * b) rc 30) t T := by
  refine fb_rep_fr h ?_ ?_ ?_ ?_
  all_goals exact fun q h1 h2 => fb_cp_out _ (by omega)
/-- the cells from I up to N take what stood one above; those from N, without it, down from I what stood one below -/
def fb_up (I N : Nat) (f : Nat → Int32) : Nat → Int32 := fun q => if I ≤ q ∧ q < N then f (q + 1) else f q
def fb_dn (N I : Nat) (f : Nat → Int32) : Nat → Int32 := fun q => if N < q ∧ q ≤ I then f (q - 1) else f q
theorem fb_up_0 {I N : Nat} (h : N ≤ I) (f : Nat → Int32) : fb_up I N f = f := by
  funext q
  unfold fb_up
  exact if_neg (by omega)
theorem fb_dn_0 {I N : Nat} (h : I ≤ N) (f : Nat → Int32) : fb_dn N I f = f := by
  funext q
  unfold fb_dn
  exact if_neg (by omega)
theorem fb_up_v (I N : Nat) (f : Nat → Int32) : fb_up I N f (N + 1) = f (N + 1) := if_neg (by omega)
theorem fb_dn_v (N I : Nat) (f : Nat → Int32) : fb_dn (N + 1) I f N = f N := if_neg (by omega)
theorem fb_up_s {I N : Nat} (h : I ≤ N) (f : Nat → Int32) : upd (fb_up I N f) N (fb_up I N f (N + 1)) = fb_up I (N + 1) f := by
  rw [fb_up_v]
  funext q
  simp only [upd, fb_up]
  by_cases hq : q = N
  · rw [if_pos hq, if_pos (by omega)]
    exact congrArg f (by omega)
  · rw [if_neg hq]
    by_cases h2 : I ≤ q ∧ q < N
    · rw [if_pos h2, if_pos (by omega)]
    · rw [if_neg h2, if_neg (by omega)]
theorem fb_dn_s {I N : Nat} (h : N + 1 ≤ I) (f : Nat → Int32) : upd (fb_dn (N + 1) I f) (N + 1) (fb_dn (N + 1) I f N) = fb_dn N I f := by
  rw [fb_dn_v]
  funext q
  simp only [upd, fb_dn]
  by_cases hq : q = N + 1
  · rw [if_pos hq, if_pos (by omega)]
    exact congrArg f (by omega)
  · rw [if_neg hq]
    by_cases h2 : N + 1 < q ∧ q ≤ I
    · rw [if_pos h2, if_pos (by omega)]
    · rw [if_neg h2, if_neg (by omega)]
def fb_mvi (i j k : Nat) : Nat := if k = j then i else if i ≤ k ∧ k < j then k + 1 else if j < k ∧ k ≤ i then k - 1 else k
def fb_dpi (i k : Nat) : Nat := if i ≤ k then k + 1 else k
theorem fb_mvi_lt {i j k n : Nat} (hi : i < n) (hj : j < n) (hk : k < n) : fb_mvi i j k < n := by
  unfold fb_mvi
  repeat' split
  all_goals omega
theorem fb_cellX (f : Nat → Int32) (b i j k : Nat) : upd (fb_dn (b + j) (b + i) (fb_up (b + i) (b + j) f)) (b + j) (f (b + i)) (b + k) = f (b + fb_mvi i j k) := by
  simp only [upd, fb_dn, fb_up, fb_mvi]
  repeat' split
  all_goals exact congrArg f (by omega)
theorem fb_cellY (f : Nat → Int32) {b n i j k L : Nat} (hL : L + 1 = b + n) (hi : i < n) (hj : j < n) (hk : k < n) : upd (fb_dn (b + j) L (fb_up (b + i) L f)) (b + j) (f (b + i)) (b + k) = f (b + fb_mvi i j k) := by
  simp only [upd, fb_dn, fb_up, fb_mvi]
  repeat' split
  all_goals exact congrArg f (by omega)
theorem fb_cellU (f : Nat → Int32) {b n i k L : Nat} (hL : L + 1 = b + n) (hk : k + 1 < n) : fb_up (b + i) L f (b + k) = f (b + fb_dpi i k) := by
  simp only [fb_up, fb_dpi]
  repeat' split
  all_goals exact congrArg f (by omega)
theorem fb_cellD (f : Nat → Int32) {b n i k : Nat} (hi : i < n) (hk : k + 1 < n) : upd (fb_dn (b + (n - 1)) (b + i) (fb_up (b + i) (b + (n - 1)) f)) (b + (n - 1)) (f (b + i)) (b + k) = f (b + fb_dpi i k) := by
  rw [fb_cellX]
  refine congrArg f ?_
  simp only [fb_mvi, fb_dpi]
  repeat' split
  all_goals omega
theorem fb_frX (f : Nat → Int32) {b i j q : Nat} (hi : i < 6) (hj : j < 6) (hq : q < b ∨ b + 6 ≤ q) (x : Int32) : upd (fb_dn (b + j) (b + i) (fb_up (b + i) (b + j) f)) (b + j) x q = f q := by
  simp only [upd, fb_dn, fb_up]
  repeat' split
  all_goals first | exact congrArg f (by omega) | (exfalso; omega)
theorem fb_frY (f : Nat → Int32) {b i j q L : Nat} (hL : L < b + 6) (hj : j < 6) (hq : q < b ∨ b + 6 ≤ q) (x : Int32) : upd (fb_dn (b + j) L (fb_up (b + i) L f)) (b + j) x q = f q := by
  simp only [upd, fb_dn, fb_up]
  repeat' split
  all_goals first | exact congrArg f (by omega) | (exfalso; omega)
theorem fb_frU (f : Nat → Int32) {b i q L : Nat} (hL : L < b + 6) (hq : q < b ∨ b + 6 ≤ q) : fb_up (b + i) L f q = f q := by
  simp only [fb_up]
  repeat' split
  all_goals first | exact congrArg f (by omega) | (exfalso; omega)
/-- a table with switch s's list put in its place -/
def fb_tset (T : fb_Tab) (s n : Nat) (gm ga gc : Nat → Nat) : fb_Tab :=
  (fun x => if x = s then n else T.1 x, fun x => if x = s then gm else T.2.1 x, fun x => if x = s then ga else T.2.2.1 x, fun x => if x = s then gc else T.2.2.2 x)
theorem fb_rep_set {ls rm ra rc ls' rm' ra' rc' : Nat → Int32} {t s n : Nat} {T : fb_Tab} {gm ga gc : Nat → Nat} (h : fb_rep ls rm ra rc t T) (hn : n ≤ 6)
    (hs : ls' (5 * t + s) = nI n) (fl : ∀ q, q ≠ 5 * t + s → ls' q = ls q)
    (r1 : fb_row rm' (6 * (5 * t + s)) n gm 4096) (r2 : fb_row ra' (6 * (5 * t + s)) n ga 6) (r3 : fb_row rc' (6 * (5 * t + s)) n gc 4096)
    (f1 : ∀ q, (q < 6 * (5 * t + s) ∨ 6 * (5 * t + s) + 6 ≤ q) → rm' q = rm q) (f2 : ∀ q, (q < 6 * (5 * t + s) ∨ 6 * (5 * t + s) + 6 ≤ q) → ra' q = ra q)
    (f3 : ∀ q, (q < 6 * (5 * t + s) ∨ 6 * (5 * t + s) + 6 ≤ q) → rc' q = rc q) : fb_rep ls' rm' ra' rc' t (fb_tset T s n gm ga gc) := by
  intro x hx
  unfold fb_tset
  dsimp only
  by_cases e : x = s
  · subst e
    rw [if_pos rfl, if_pos rfl, if_pos rfl, if_pos rfl]
    exact ⟨hn, hs, r1, r2, r3⟩
  · rw [if_neg e, if_neg e, if_neg e, if_neg e]
    obtain ⟨h6, hl, hm, ha, hc⟩ := h x hx
    refine ⟨h6, by rw [fl _ (by omega)]; exact hl, fb_row_fr hm ?_, fb_row_fr ha ?_, fb_row_fr hc ?_⟩
    · exact fun q h1 h2 => f1 q (by omega)
    · exact fun q h1 h2 => f2 q (by omega)
    · exact fun q h1 h2 => f3 q (by omega)
theorem fb_rep_setn {ls rm ra rc ls' rm' ra' rc' : Nat → Int32} {t s t' : Nat} {T : fb_Tab} (h : fb_rep ls rm ra rc t' T) (hne : t' ≠ t) (hs5 : s < 5)
    (fl : ∀ q, q ≠ 5 * t + s → ls' q = ls q)
    (f1 : ∀ q, (q < 6 * (5 * t + s) ∨ 6 * (5 * t + s) + 6 ≤ q) → rm' q = rm q) (f2 : ∀ q, (q < 6 * (5 * t + s) ∨ 6 * (5 * t + s) + 6 ≤ q) → ra' q = ra q)
    (f3 : ∀ q, (q < 6 * (5 * t + s) ∨ 6 * (5 * t + s) + 6 ≤ q) → rc' q = rc q) : fb_rep ls' rm' ra' rc' t' T := by
  refine fb_rep_fr h ?_ ?_ ?_ ?_
  · exact fun q h1 h2 => fl q (by omega)
  · exact fun q h1 h2 => f1 q (by omega)
  · exact fun q h1 h2 => f2 q (by omega)
  · exact fun q h1 h2 => f3 q (by omega)
theorem fb_row_add {f : Nat → Int32} {b n B x : Nat} {g : Nat → Nat} (h : fb_row f b n g B) (hx : x < B) : fb_row (upd f (b + n) (nI x)) b (n + 1) (fun i => if i = n then x else g i) B := by
  intro i hi
  by_cases e : i = n
  · subst e
    dsimp only
    rw [pk_us, if_pos rfl]
    exact ⟨rfl, hx⟩
  · dsimp only
    rw [pk_un (by omega), if_neg e]
    exact h i (by omega)
theorem fb_row_ix {f f' : Nat → Int32} {b n n' B : Nat} {g ix : Nat → Nat} (h : fb_row f b n g B) (hx : ∀ k, k < n' → ix k < n) (e : ∀ k, k < n' → f' (b + k) = f (b + ix k)) : fb_row f' b n' (fun k => g (ix k)) B := by
  intro k hk
  rw [e k hk]
  exact h (ix k) (hx k hk)
theorem fb_dpi_lt {i k n : Nat} (hk : k < n - 1) : fb_dpi i k < n := by
  unfold fb_dpi
  split
  all_goals omega
end
section
/-! the relation's pieces: slots of kept tables, packets; a publishing; a tick -/
def fb_perm (sg : Nat → Nat) : Prop := sg 3 = 0 ∧ (∀ t, t < 3 → 1 ≤ sg t ∧ sg t ≤ 3) ∧ (∀ t t', t < 3 → t' < 3 → sg t = sg t' → t = t')
theorem fb_perm6 {sg : Nat → Nat} (h : fb_perm sg) : (sg 0 = 1 ∧ sg 1 = 2 ∧ sg 2 = 3) ∨ (sg 0 = 1 ∧ sg 1 = 3 ∧ sg 2 = 2) ∨ (sg 0 = 2 ∧ sg 1 = 1 ∧ sg 2 = 3) ∨
    (sg 0 = 2 ∧ sg 1 = 3 ∧ sg 2 = 1) ∨ (sg 0 = 3 ∧ sg 1 = 1 ∧ sg 2 = 2) ∨ (sg 0 = 3 ∧ sg 1 = 2 ∧ sg 2 = 1) := by
  obtain ⟨_, hr, hi⟩ := h
  have a0 := hr 0 (by omega)
  have a1 := hr 1 (by omega)
  have a2 := hr 2 (by omega)
  have b01 : ¬ sg 0 = sg 1 := fun e => absurd (hi 0 1 (by omega) (by omega) e) (by omega)
  have b02 : ¬ sg 0 = sg 2 := fun e => absurd (hi 0 2 (by omega) (by omega) e) (by omega)
  have b12 : ¬ sg 1 = sg 2 := fun e => absurd (hi 1 2 (by omega) (by omega) e) (by omega)
  omega
theorem fb_perm_on {sg : Nat → Nat} (h : fb_perm sg) {y : Nat} (h1 : 1 ≤ y) (h3 : y ≤ 3) : ∃ t, t < 3 ∧ sg t = y := by
  have h6 := fb_perm6 h
  have hc : sg 0 = y ∨ sg 1 = y ∨ sg 2 = y := by omega
  rcases hc with e | e | e
  · exact ⟨0, by omega, e⟩
  · exact ⟨1, by omega, e⟩
  · exact ⟨2, by omega, e⟩
theorem fb_cnt_perm {sg : Nat → Nat} (h : fb_perm sg) {f g : Nat → Bool} (e : ∀ t, t < 3 → g (sg t) = f t) : fb_cnt (fun t => g (t + 1)) 3 = fb_cnt f 3 := by
  have e0 := e 0 (by omega)
  have e1 := e 1 (by omega)
  have e2 := e 2 (by omega)
  simp only [fb_cnt, Nat.zero_add, Nat.reduceAdd]
  rcases fb_perm6 h with ⟨a, b, c⟩ | ⟨a, b, c⟩ | ⟨a, b, c⟩ | ⟨a, b, c⟩ | ⟨a, b, c⟩ | ⟨a, b, c⟩
  all_goals
    rw [a] at e0
    rw [b] at e1
    rw [c] at e2
    simp only [e0, e1, e2]
    try omega
def fb_px (ax : Nat) (u : Nat → Bool) : Option Nat := if u ax = true then fb_find (fun t => !(decide (t = ax) || u t)) 3 0 else some ax
def fb_pyl (ay : Nat) (w : Nat → Bool) : Nat → Nat
  | 0 => if w ay = true then 0 else ay
  | n + 1 => if n + 1 ≠ ay ∧ w (n + 1) = false then n + 1 else fb_pyl ay w n
theorem fb_px_some {ax x : Nat} {u : Nat → Bool} (ha : ax < 3) (h : fb_px ax u = some x) : x < 3 ∧ u x = false := by
  unfold fb_px at h
  by_cases hu : u ax = true
  · rw [if_pos hu] at h
    have := fb_find_some h
    refine ⟨by omega, ?_⟩
    have hb := this.2.2
    simp only [Bool.not_eq_true', Bool.or_eq_false_iff] at hb
    exact hb.2
  · rw [if_neg hu] at h
    cases h
    exact ⟨ha, Bool.eq_false_iff.mpr hu⟩
theorem fb_px_none {ax : Nat} {u : Nat → Bool} (h : fb_px ax u = none) : ∀ t, t < 3 → u t = true := by
  unfold fb_px at h
  by_cases hu : u ax = true
  · rw [if_pos hu] at h
    intro t ht
    have hb := fb_find_none h t (by omega) (by omega)
    simp only [Bool.not_eq_false', Bool.or_eq_true, decide_eq_true_eq] at hb
    rcases hb with e | e
    · rw [e]; exact hu
    · exact e
  · rw [if_neg hu] at h
    cases h
theorem fb_pyl_c {ay : Nat} {w : Nat → Bool} (h1 : 1 ≤ ay) (h3 : ay ≤ 3) : ∀ n, n ≤ 3 → (fb_pyl ay w n = 0 ∧ w ay = true ∧ ∀ y, 1 ≤ y → y ≤ n → w y = true) ∨ (1 ≤ fb_pyl ay w n ∧ fb_pyl ay w n ≤ 3 ∧ w (fb_pyl ay w n) = false) := by
  intro n
  induction n with
  | zero =>
    intro _
    by_cases hw : w ay = true
    · refine Or.inl ⟨?_, hw, fun y h1 h2 => by omega⟩
      unfold fb_pyl
      exact if_pos hw
    · have e : fb_pyl ay w 0 = ay := by
        unfold fb_pyl
        exact if_neg hw
      rw [e]
      exact Or.inr ⟨h1, h3, Bool.eq_false_iff.mpr hw⟩
  | succ n ih =>
    intro hn
    by_cases hc : n + 1 ≠ ay ∧ w (n + 1) = false
    · have e : fb_pyl ay w (n + 1) = n + 1 := by
        rw [fb_pyl, if_pos hc]
      rw [e]
      exact Or.inr ⟨by omega, hn, hc.2⟩
    · have e : fb_pyl ay w (n + 1) = fb_pyl ay w n := by
        rw [fb_pyl, if_neg hc]
      rw [e]
      rcases ih (by omega) with ⟨a, b, c⟩ | r
      · refine Or.inl ⟨a, b, fun y hy1 hy2 => ?_⟩
        by_cases hy : y = n + 1
        · subst hy
          by_cases ea : n + 1 = ay
          · rw [ea]; exact b
          · cases hw : w (n + 1) with
            | true => rfl
            | false => exact absurd ⟨ea, hw⟩ hc
        · exact c y hy1 (by omega)
      · exact Or.inr r
theorem fb_pub {ax : Nat} {u w : Nat → Bool} {sg : Nat → Nat} (hp : fb_perm sg) (ha : ax < 3) (e : ∀ t, t < 3 → w (sg t) = u t) :
    (fb_px ax u = none ∧ fb_pyl (sg ax) w 3 = 0) ∨ ∃ x y, fb_px ax u = some x ∧ fb_pyl (sg ax) w 3 = y ∧ x < 3 ∧ u x = false ∧ 1 ≤ y ∧ y ≤ 3 ∧ w y = false := by
  have hr := hp.2.1 ax ha
  cases hx : fb_px ax u with
  | none =>
    refine Or.inl ⟨rfl, ?_⟩
    have hn := fb_px_none hx
    rcases fb_pyl_c (w := w) hr.1 hr.2 3 (by omega) with r | r
    · exact r.1
    · obtain ⟨t, ht, et⟩ := fb_perm_on hp r.1 r.2.1
      have := e t ht
      rw [et, r.2.2, hn t ht] at this
      cases this
  | some x =>
    have hs := fb_px_some ha hx
    refine Or.inr ⟨x, _, rfl, rfl, hs.1, hs.2, ?_⟩
    rcases fb_pyl_c (w := w) hr.1 hr.2 3 (by omega) with r | r
    · have hb := hp.2.1 x hs.1
      have := e x hs.1
      rw [r.2.2 _ hb.1 hb.2, hs.2] at this
      cases this
    · exact r
def fb_sg (sg : Nat → Nat) (x y : Nat) : Nat → Nat := fun t => if t = x then y else if sg t = y then sg x else sg t
theorem fb_sg_perm {sg : Nat → Nat} {x y : Nat} (h : fb_perm sg) (hx : x < 3) (h1 : 1 ≤ y) (h3 : y ≤ 3) : fb_perm (fb_sg sg x y) := by
  have h0 := h.1
  have hr := h.2.1
  have hi := h.2.2
  have hxr := hr x hx
  refine ⟨?_, ?_, ?_⟩
  · simp only [fb_sg]
    rw [if_neg (by omega), if_neg (by omega)]
    exact h0
  · intro t ht
    have := hr t ht
    simp only [fb_sg]
    repeat' split
    all_goals omega
  · intro t t' ht ht' e
    have a := hi t t' ht ht'
    have b := hi t x ht hx
    have c := hi t' x ht' hx
    simp only [fb_sg] at e
    by_cases e1 : t = x
    · by_cases e2 : t' = x
      · omega
      · rw [if_pos e1, if_neg e2] at e
        by_cases e3 : sg t' = y
        · rw [if_pos e3] at e
          exact absurd (c (by omega)) e2
        · rw [if_neg e3] at e
          omega
    · by_cases e2 : t' = x
      · rw [if_neg e1, if_pos e2] at e
        by_cases e3 : sg t = y
        · rw [if_pos e3] at e
          exact absurd (b (by omega)) e1
        · rw [if_neg e3] at e
          omega
      · rw [if_neg e1, if_neg e2] at e
        by_cases e3 : sg t = y
        · by_cases e4 : sg t' = y
          · exact a (by omega)
          · rw [if_pos e3, if_neg e4] at e
            exact absurd (c (by omega)) e2
        · by_cases e4 : sg t' = y
          · rw [if_neg e3, if_pos e4] at e
            exact absurd (b (by omega)) e1
          · rw [if_neg e3, if_neg e4] at e
            exact a e
def fb_usR (st tb : Nat → Int32) (x : Int32) : Bool := (fb_find (fun k => decide (st k = 1 ∧ tb k = x)) 8 0).isSome
def fb_pkok (st pl hd tr tX tY : Nat → Int32) (tt sg : Nat → Nat) : Prop := ∀ k, k < 8 → st k = 1 →
  (∃ p, p < 20 ∧ pl k = nI p) ∧ (∃ h, h < 64 ∧ hd k = nI h) ∧ (∃ m, m < 16 ∧ tr k = nI m) ∧ tt k < 3 ∧ tX k = nI (tt k) ∧ tY k = nI (sg (tt k))
def fb_used (st : Nat → Int32) (tt : Nat → Nat) (t : Nat) : Prop := ∃ k, k < 8 ∧ st k = 1 ∧ tt k = t
def fb_kept (st : Nat → Int32) (tt : Nat → Nat) (ax t : Nat) : Prop := t = 3 ∨ t = ax ∨ fb_used st tt t
theorem fb_us_sg {st pl hd tr tX tY : Nat → Int32} {tt sg : Nat → Nat} (h : fb_pkok st pl hd tr tX tY tt sg) (hp : fb_perm sg) {t : Nat} (ht : t < 3) : fb_usR st tY (nI (sg t)) = fb_usR st tX (nI t) := by
  unfold fb_usR
  refine congrArg Option.isSome (fb_find_congr fun k _ hk => ?_)
  by_cases h1 : st k = 1
  · obtain ⟨_, _, _, h3, eX, eY⟩ := h k (by omega) h1
    have r1 := hp.2.1 t ht
    have r2 := hp.2.1 (tt k) h3
    show decide (st k = 1 ∧ tY k = nI (sg t)) = decide (st k = 1 ∧ tX k = nI t)
    rw [eX, eY]
    refine decide_eq_decide.mpr (and_congr_right fun _ => ?_)
    rw [nI_eq (by omega) (by omega), nI_eq (by omega) (by omega)]
    exact ⟨fun e => hp.2.2 _ _ h3 ht e, fun e => by rw [e]⟩
  · exact decide_eq_decide.mpr ⟨fun z => absurd z.1 h1, fun z => absurd z.1 h1⟩
theorem fb_us_used {st pl hd tr tX tY : Nat → Int32} {tt sg : Nat → Nat} (h : fb_pkok st pl hd tr tX tY tt sg) {t : Nat} (hu : fb_used st tt t) : t < 3 ∧ fb_usR st tX (nI t) = true := by
  obtain ⟨k, hk, h1, rfl⟩ := hu
  obtain ⟨_, _, _, h3, eX, _⟩ := h k hk h1
  refine ⟨h3, ?_⟩
  unfold fb_usR
  exact fb_find_ex (j := k) (by omega) (by omega) (decide_eq_true ⟨h1, eX⟩)
/-- what binds the two states -/
def fb_tabs (ls rm ra rc ls' rm' ra' rc' st : Nat → Int32) (ax : Nat) (sg tt : Nat → Nat) (τ : Nat → fb_Tab) : Prop :=
  ∀ t, fb_kept st tt ax t → fb_rep ls rm ra rc t (τ t) ∧ fb_rep ls' rm' ra' rc' (sg t) (τ t)
abbrev fb_Q : Type := (Nat → Int32) × (Nat → Int32) × (Nat → Int32) × (Nat → Int32)
def fb_pk (τ : Nat → fb_Tab) (pe : Nat → Int32) (tt : Nat → Nat) (k : Nat) (q : fb_Q) : fb_Q :=
  match fb_go (τ (tt k)) (q.2.1 k).toNatClampNeg (q.2.2.1 k).toNatClampNeg none with
  | none => (upd q.1 k 3, q.2.1, q.2.2.1, upd q.2.2.2 k (q.2.2.2 k + 1))
  | some x => if pe x.1 = -1 then (upd q.1 k 2, upd q.2.1 k (nI x.1), upd q.2.2.1 k (nI x.2), upd q.2.2.2 k (q.2.2.2 k + 1))
    else (if q.2.2.2 k = 15 then upd q.1 k 4 else q.1, upd q.2.1 k (pe x.1), upd q.2.2.1 k (nI x.2), upd q.2.2.2 k (q.2.2.2 k + 1))
def fb_tk (τ : Nat → fb_Tab) (pe : Nat → Int32) (tt : Nat → Nat) : Nat → fb_Q → fb_Q
  | 0, q => q
  | n + 1, q => if (fb_tk τ pe tt n q).1 n = 1 then fb_pk τ pe tt n (fb_tk τ pe tt n q) else fb_tk τ pe tt n q
theorem fb_pk_n {τ : Nat → fb_Tab} {pe : Nat → Int32} {tt : Nat → Nat} {k : Nat} {q : fb_Q} (hg : fb_go (τ (tt k)) (q.2.1 k).toNatClampNeg (q.2.2.1 k).toNatClampNeg none = none) :
    fb_pk τ pe tt k q = (upd q.1 k 3, q.2.1, q.2.2.1, upd q.2.2.2 k (q.2.2.2 k + 1)) := by
  unfold fb_pk
  rw [hg]
theorem fb_pk_d {τ : Nat → fb_Tab} {pe : Nat → Int32} {tt : Nat → Nat} {k : Nat} {q : fb_Q} {x : Nat × Nat} (hg : fb_go (τ (tt k)) (q.2.1 k).toNatClampNeg (q.2.2.1 k).toNatClampNeg none = some x) (hn : pe x.1 = -1) :
    fb_pk τ pe tt k q = (upd q.1 k 2, upd q.2.1 k (nI x.1), upd q.2.2.1 k (nI x.2), upd q.2.2.2 k (q.2.2.2 k + 1)) := by
  unfold fb_pk
  rw [hg]
  exact if_pos hn
theorem fb_pk_l {τ : Nat → fb_Tab} {pe : Nat → Int32} {tt : Nat → Nat} {k : Nat} {q : fb_Q} {x : Nat × Nat} (hg : fb_go (τ (tt k)) (q.2.1 k).toNatClampNeg (q.2.2.1 k).toNatClampNeg none = some x) (hn : ¬ pe x.1 = -1) (hm : q.2.2.2 k = 15) :
    fb_pk τ pe tt k q = (upd q.1 k 4, upd q.2.1 k (pe x.1), upd q.2.2.1 k (nI x.2), upd q.2.2.2 k (q.2.2.2 k + 1)) := by
  unfold fb_pk
  rw [hg]
  refine (if_neg hn).trans ?_
  rw [if_pos hm]
theorem fb_pk_g {τ : Nat → fb_Tab} {pe : Nat → Int32} {tt : Nat → Nat} {k : Nat} {q : fb_Q} {x : Nat × Nat} (hg : fb_go (τ (tt k)) (q.2.1 k).toNatClampNeg (q.2.2.1 k).toNatClampNeg none = some x) (hn : ¬ pe x.1 = -1) (hm : ¬ q.2.2.2 k = 15) :
    fb_pk τ pe tt k q = (q.1, upd q.2.1 k (pe x.1), upd q.2.2.1 k (nI x.2), upd q.2.2.2 k (q.2.2.2 k + 1)) := by
  unfold fb_pk
  rw [hg]
  refine (if_neg hn).trans ?_
  rw [if_neg hm]
theorem fb_pk_fr (τ : Nat → fb_Tab) (pe : Nat → Int32) (tt : Nat → Nat) {k j : Nat} (q : fb_Q) (h : j ≠ k) :
    (fb_pk τ pe tt k q).1 j = q.1 j ∧ (fb_pk τ pe tt k q).2.1 j = q.2.1 j ∧ (fb_pk τ pe tt k q).2.2.1 j = q.2.2.1 j ∧ (fb_pk τ pe tt k q).2.2.2 j = q.2.2.2 j := by
  cases hg : fb_go (τ (tt k)) (q.2.1 k).toNatClampNeg (q.2.2.1 k).toNatClampNeg none with
  | none =>
    rw [fb_pk_n hg]
    exact ⟨pk_un h, rfl, rfl, pk_un h⟩
  | some x =>
    by_cases hn : pe x.1 = -1
    · rw [fb_pk_d hg hn]
      exact ⟨pk_un h, pk_un h, pk_un h, pk_un h⟩
    · by_cases hm : q.2.2.2 k = 15
      · rw [fb_pk_l hg hn hm]
        exact ⟨pk_un h, pk_un h, pk_un h, pk_un h⟩
      · rw [fb_pk_g hg hn hm]
        exact ⟨rfl, pk_un h, pk_un h, pk_un h⟩
theorem fb_tk_fr (τ : Nat → fb_Tab) (pe : Nat → Int32) (tt : Nat → Nat) (q : fb_Q) : ∀ {n j : Nat}, n ≤ j → (fb_tk τ pe tt n q).1 j = q.1 j := by
  intro n
  induction n with
  | zero => intro j _; rfl
  | succ n ih =>
    intro j hj
    rw [fb_tk]
    split
    · rw [(fb_pk_fr τ pe tt _ (by omega)).1]
      exact ih (by omega)
    · exact ih (by omega)
theorem fb_tk_st (τ : Nat → fb_Tab) (pe : Nat → Int32) (tt : Nat → Nat) (q : fb_Q) {n j : Nat} (h : j < n) : (fb_tk τ pe tt (n + 1) q).1 j = (fb_tk τ pe tt n q).1 j := by
  rw [fb_tk]
  split
  · exact (fb_pk_fr τ pe tt _ (by omega)).1
  · rfl
theorem fb_pk_st {τ : Nat → fb_Tab} {pe : Nat → Int32} {tt : Nat → Nat} {k j : Nat} {q : fb_Q} (h1 : q.1 k = 1) (h : (fb_pk τ pe tt k q).1 j = 1) : q.1 j = 1 := by
  by_cases e : j = k
  · rw [e]; exact h1
  · rw [(fb_pk_fr τ pe tt q e).1] at h
    exact h
theorem fb_pk_ok {τ : Nat → fb_Tab} {pe tX tY : Nat → Int32} {tt sg : Nat → Nat} {k : Nat} {q : fb_Q} (hk : k < 8) (h1 : q.1 k = 1) (hpe : fb_pok pe) (ok : fb_ok (τ (tt k)))
    (h : fb_pkok q.1 q.2.1 q.2.2.1 q.2.2.2 tX tY tt sg) :
    fb_pkok (fb_pk τ pe tt k q).1 (fb_pk τ pe tt k q).2.1 (fb_pk τ pe tt k q).2.2.1 (fb_pk τ pe tt k q).2.2.2 tX tY tt sg := by
  intro j hj hst
  by_cases e : j = k
  · subst e
    obtain ⟨⟨p, hp, ep⟩, ⟨hh, hh64, eh⟩, ⟨m, hm, em⟩, rest⟩ := h j hj h1
    cases hg : fb_go (τ (tt j)) (q.2.1 j).toNatClampNeg (q.2.2.1 j).toNatClampNeg none with
    | none =>
      rw [fb_pk_n hg] at hst
      exact absurd (pk_us.symm.trans hst) (by decide)
    | some x =>
      have hx : x.1 < 20 ∧ x.2 < 64 := by
        rw [ep, eh, nI_clamp (by omega), nI_clamp (by omega)] at hg
        exact fb_go_lt ok hp hh64 hg
      by_cases hn : pe x.1 = -1
      · rw [fb_pk_d hg hn] at hst
        exact absurd (pk_us.symm.trans hst) (by decide)
      · by_cases h15 : q.2.2.2 j = 15
        · rw [fb_pk_l hg hn h15] at hst
          exact absurd (pk_us.symm.trans hst) (by decide)
        · rw [fb_pk_g hg hn h15]
          dsimp only
          rw [pk_us, pk_us, pk_us]
          refine ⟨fb_pe_on hpe hx.1 hn, ⟨x.2, hx.2, rfl⟩, ⟨m + 1, ?_, ?_⟩, rest⟩
          · have : m ≠ 15 := fun e => h15 (by rw [em, e]; rfl)
            omega
          · rw [em, nI_1]
  · obtain ⟨f1, f2, f3, f4⟩ := fb_pk_fr τ pe tt q e
    rw [f1] at hst
    rw [f2, f3, f4]
    exact h j hj hst
theorem fb_tk_ok {τ : Nat → fb_Tab} {pe tX tY : Nat → Int32} {tt sg : Nat → Nat} {q : fb_Q} (hpe : fb_pok pe) (ok : ∀ k, k < 8 → q.1 k = 1 → fb_ok (τ (tt k)))
    (h : fb_pkok q.1 q.2.1 q.2.2.1 q.2.2.2 tX tY tt sg) : ∀ n, n ≤ 8 →
    fb_pkok (fb_tk τ pe tt n q).1 (fb_tk τ pe tt n q).2.1 (fb_tk τ pe tt n q).2.2.1 (fb_tk τ pe tt n q).2.2.2 tX tY tt sg ∧ ∀ j, (fb_tk τ pe tt n q).1 j = 1 → q.1 j = 1 := by
  intro n
  induction n with
  | zero => intro _; exact ⟨h, fun j hj => hj⟩
  | succ n ih =>
    intro hn
    obtain ⟨a, b⟩ := ih (by omega)
    rw [fb_tk]
    by_cases h1 : (fb_tk τ pe tt n q).1 n = 1
    · rw [if_pos h1]
      exact ⟨fb_pk_ok (by omega) h1 hpe (ok n (by omega) (b n h1)) a, fun j hj => b j (fb_pk_st h1 hj)⟩
    · rw [if_neg h1]
      exact ⟨a, b⟩
end
section
/-! X's walks: numbers, rules put, copied, shifted, tables copied -/
theorem fw_big {x : Int32} {a b : Nat} (h : nI a ≤ x) (hb : b < a) (ha : a < 2 ^ 31) : ¬ x ≤ nI b ∧ nI b < x ∧ ¬ x < 0 := by
  have h1 := Int32.le_iff_toInt_le.mp h
  rw [nI_toInt ha] at h1
  refine ⟨fun z => ?_, ?_, fun z => ?_⟩
  · have h2 := Int32.le_iff_toInt_le.mp z
    rw [nI_toInt (by omega)] at h2
    omega
  · rw [Int32.lt_iff_toInt_lt, nI_toInt (by omega)]
    omega
  · have h2 := Int32.lt_iff_toInt_lt.mp z
    rw [show (0 : Int32).toInt = 0 from by decide] at h2
    omega
theorem fw_m1 {n : Nat} (h : n < 2 ^ 31) : ¬ nI n = -1 := by
  intro e
  have h2 := congrArg Int32.toInt e
  rw [nI_toInt h, show (-1 : Int32).toInt = -1 from by decide] at h2
  omega
theorem fx_in {post : Int32 → Prop} {n L : Nat} (h : n < L) (hL : L < 2 ^ 31) (hp : post 1) : wpX_within post (nI n) (nI L) :=
  br_f (nI_pos (by omega)) (br_f (nI_ge h hL) hp)
theorem fx_out {post : Int32 → Prop} {x : Int32} {L : Nat} (h : x < 0 ∨ nI L ≤ x) (hp : post 0) : wpX_within post x (nI L) := by
  rcases h with h | h
  · exact br_t h hp
  · by_cases h0 : x < 0
    · exact br_t h0 hp
    · exact br_f h0 (br_t h hp)
theorem fx_lo {post : Int32 → Prop} {x y : Int32} (t s : Nat) (ex : x = nI t) (ey : y = nI s) (h : post (nI (5 * t + s))) : wpX_listOf post x y := by
  have e : x * 5 + y = nI (5 * t + s) := by
    rw [ex, ey, show (5 : Int32) = nI 5 from rfl, pk_mul, nI_add, Nat.mul_comm]
  unfold wpX_listOf
  rw [e]
  exact h
section
variable {fA : Int32} {pe ls rm ra rc st pl hd tX tr : Nat → Int32}
theorem fx_sr_s {post : Int32 → Prop} {x y : Int32} (h : x < 0 ∨ nI 5 ≤ x) (hp : post 0) : wpX_isStagedRule post (fA, pe, ls, rm, ra, rc, st, pl, hd, tX, tr) x y := by
  unfold wpX_isStagedRule
  exact fx_out (L := 5) h (br_t rfl hp)
theorem fx_sr_i {post : Int32 → Prop} {s : Nat} {y : Int32} {T : fb_Tab} (R : fb_rep ls rm ra rc 3 T) (hs : s < 5) (h : y < 0 ∨ nI (T.1 s) ≤ y) (hp : post 0) : wpX_isStagedRule post (fA, pe, ls, rm, ra, rc, st, pl, hd, tX, tr) (nI s) y := by
  obtain ⟨h6, hl, _⟩ := R s hs
  unfold wpX_isStagedRule
  refine fx_in (L := 5) hs (by omega) (br_f (by decide) (fx_lo 3 s rfl rfl ⟨vp_in_nI (by omega) (by omega), nm_r (e' := nI (T.1 s)) ?_ (fx_out h ⟨rfl, hp⟩)⟩))
  rw [nI_clamp (by omega)]
  exact hl
theorem fx_sr {post : Int32 → Prop} {s i : Nat} {T : fb_Tab} (R : fb_rep ls rm ra rc 3 T) (hs : s < 5) (hi : i < T.1 s) (hp : post 1) : wpX_isStagedRule post (fA, pe, ls, rm, ra, rc, st, pl, hd, tX, tr) (nI s) (nI i) := by
  obtain ⟨h6, hl, _⟩ := R s hs
  unfold wpX_isStagedRule
  refine fx_in (L := 5) hs (by omega) (br_f (by decide) (fx_lo 3 s rfl rfl ⟨vp_in_nI (by omega) (by omega), nm_r (e' := nI (T.1 s)) ?_ (fx_in hi (by omega) ⟨rfl, hp⟩)⟩))
  rw [nI_clamp (by omega)]
  exact hl
theorem fx_put {post : SX → Prop} {x y z w : Int32} (q : Nat) (ew : w = nI q) (hq : q < 120) (hp : post (fA, pe, ls, upd rm q x, upd ra q y, upd rc q z, st, pl, hd, tX, tr)) : wpX_putRule post (fA, pe, ls, rm, ra, rc, st, pl, hd, tX, tr) w x y z := by
  subst ew
  have hc : (nI q).toNatClampNeg = q := nI_clamp (by omega)
  have hv : vp_in (nI q) 120 := vp_in_nI hq (by omega)
  unfold wpX_putRule
  refine ⟨hv, nm_r (e' := upd rm q x) (by rw [hc]) ⟨hv, nm_r (e' := upd ra q y) (by rw [hc]) ⟨hv, nm_r (e' := upd rc q z) (by rw [hc]) hp⟩⟩⟩
theorem fx_cr {post : SX → Prop} {x y : Int32} (a b : Nat) (ex : x = nI a) (ey : y = nI b) (ha : a < 120) (hb : b < 120)
    (hp : post (fA, pe, ls, upd rm b (rm a), upd ra b (ra a), upd rc b (rc a), st, pl, hd, tX, tr)) : wpX_copyRule post (fA, pe, ls, rm, ra, rc, st, pl, hd, tX, tr) x y := by
  subst ex
  have hc : (nI a).toNatClampNeg = a := nI_clamp (by omega)
  have hv : vp_in (nI a) 120 := vp_in_nI ha (by omega)
  unfold wpX_copyRule
  refine ⟨hv, hv, hv, ?_⟩
  rw [hc]
  exact fx_put b ey hb hp
theorem fx_s73e {post : SX → Prop} {x y z : Int32} {b i j : Nat} (hij : i ≤ j) (hj : j < 6) (hb : b + 6 ≤ 120)
    (hp : post (fA, pe, ls, upd rm (b + j) x, upd ra (b + j) y, upd rc (b + j) z, st, pl, hd, tX, tr)) (n : Nat) :
    wX_shiftRule_73 post (nI j) (nI b) x y z (n + 1) (nI i) fA pe ls rm ra rc st pl hd tX tr := by
  refine br_t (nI_le hij (by omega)) ?_
  exact fx_put (b + j) (nI_add b j) (by omega) hp
theorem fx_s73 {post : SX → Prop} {x y z : Int32} {b i j : Nat} (hi : i < 6) (hj : j < 6) (hb : b + 6 ≤ 120)
    (hp : post (fA, pe, ls, upd (fb_dn (b + j) (b + i) rm) (b + j) x, upd (fb_dn (b + j) (b + i) ra) (b + j) y, upd (fb_dn (b + j) (b + i) rc) (b + j) z, st, pl, hd, tX, tr)) :
    ∀ d k, k = j + d → k ≤ i → ∀ n, d < n → wX_shiftRule_73 post (nI j) (nI b) x y z n (nI k) fA pe ls (fb_dn (b + k) (b + i) rm) (fb_dn (b + k) (b + i) ra) (fb_dn (b + k) (b + i) rc) st pl hd tX tr := by
  intro d
  induction d with
  | zero =>
    intro k hk hki n hn
    obtain ⟨m, rfl⟩ : ∃ m, n = m + 1 := ⟨n - 1, by omega⟩
    obtain rfl : k = j := hk
    exact fx_s73e (Nat.le_refl _) hj hb hp m
  | succ d ih =>
    intro k hk hki n hn
    obtain ⟨m, rfl⟩ : ∃ m, n = m + 1 := ⟨n - 1, by omega⟩
    obtain ⟨k, rfl⟩ : ∃ k', k = k' + 1 := ⟨k - 1, by omega⟩
    refine br_f (nI_ge (by omega) (by omega)) ?_
    refine fx_cr (b + k) (b + k + 1) ?_ (nI_add b (k + 1)) (by omega) (by omega) ?_
    · rw [nI_add, ← Nat.add_assoc, nI_pred]
    · refine nm_r (pk_m1 k) ?_
      have r := ih k (by omega) (by omega) m (by omega)
      have e1 := fb_dn_s (N := b + k) (I := b + i) (by omega) rm
      have e2 := fb_dn_s (N := b + k) (I := b + i) (by omega) ra
      have e3 := fb_dn_s (N := b + k) (I := b + i) (by omega) rc
      rw [← e1, ← e2, ← e3] at r
      exact r
theorem fx_s42 {post : SX → Prop} {x y z : Int32} {b i j : Nat} (hj : j < 6) (hb : b + 6 ≤ 120)
    (hp : post (fA, pe, ls, upd (fb_up (b + i) (b + j) rm) (b + j) x, upd (fb_up (b + i) (b + j) ra) (b + j) y, upd (fb_up (b + i) (b + j) rc) (b + j) z, st, pl, hd, tX, tr)) :
    ∀ d k, k + d = j → i ≤ k → ∀ n, d < n → wX_shiftRule_42 post (nI i) (nI j) (nI b) x y z n (nI k) fA pe ls (fb_up (b + i) (b + k) rm) (fb_up (b + i) (b + k) ra) (fb_up (b + i) (b + k) rc) st pl hd tX tr := by
  intro d
  induction d with
  | zero =>
    intro k hk hik n hn
    obtain ⟨m, rfl⟩ : ∃ m, n = m + 1 := ⟨n - 1, by omega⟩
    obtain rfl : k = j := hk
    exact br_t (nI_le (Nat.le_refl _) (by omega)) ⟨1, fx_s73e hik hj hb hp 0⟩
  | succ d ih =>
    intro k hk hik n hn
    obtain ⟨m, rfl⟩ : ∃ m, n = m + 1 := ⟨n - 1, by omega⟩
    refine br_f (nI_ge (by omega) (by omega)) ?_
    refine fx_cr (b + k + 1) (b + k) ?_ (nI_add b k) (by omega) (by omega) ?_
    · rw [nI_add, nI_1]
    · refine nm_r (nI_1 k) ?_
      have r := ih (k + 1) (by omega) (by omega) m (by omega)
      have e1 := fb_up_s (I := b + i) (N := b + k) (by omega) rm
      have e2 := fb_up_s (I := b + i) (N := b + k) (by omega) ra
      have e3 := fb_up_s (I := b + i) (N := b + k) (by omega) rc
      rw [← Nat.add_assoc, ← e1, ← e2, ← e3] at r
      exact r
theorem fx_shift {post : SX → Prop} {i j L : Nat} (hi : i < 6) (hj : j < 6) (hL : L < 20)
    (hp : post (fA, pe, ls, upd (fb_dn (6 * L + j) (6 * L + i) (fb_up (6 * L + i) (6 * L + j) rm)) (6 * L + j) (rm (6 * L + i)), upd (fb_dn (6 * L + j) (6 * L + i) (fb_up (6 * L + i) (6 * L + j) ra)) (6 * L + j) (ra (6 * L + i)), upd (fb_dn (6 * L + j) (6 * L + i) (fb_up (6 * L + i) (6 * L + j) rc)) (6 * L + j) (rc (6 * L + i)), st, pl, hd, tX, tr)) :
    wpX_shiftRule post (fA, pe, ls, rm, ra, rc, st, pl, hd, tX, tr) (nI L) (nI i) (nI j) := by
  have e6 : nI L * 6 = nI (6 * L) := by rw [show (6 : Int32) = nI 6 from rfl, pk_mul, Nat.mul_comm]
  have ea : nI (6 * L) + nI i = nI (6 * L + i) := nI_add _ _
  have hc : (nI (6 * L + i)).toNatClampNeg = 6 * L + i := nI_clamp (by omega)
  have hv : vp_in (nI (6 * L + i)) 120 := vp_in_nI (by omega) (by omega)
  unfold wpX_shiftRule
  refine nm_r e6 ?_
  rw [ea, hc]
  refine ⟨hv, nm_e ⟨hv, nm_e ⟨hv, nm_e ?_⟩⟩⟩
  by_cases hij : i ≤ j
  · rw [fb_dn_0 (by omega), fb_dn_0 (by omega), fb_dn_0 (by omega)] at hp
    have r := fx_s42 hj (by omega) hp (j - i) i (by omega) (Nat.le_refl _) (j - i + 1) (by omega)
    rw [fb_up_0 (Nat.le_refl _), fb_up_0 (Nat.le_refl _), fb_up_0 (Nat.le_refl _)] at r
    exact ⟨_, r⟩
  · rw [fb_up_0 (by omega), fb_up_0 (by omega), fb_up_0 (by omega)] at hp
    have r := fx_s73 hi hj (by omega) hp (i - j) i (by omega) (Nat.le_refl _) (i - j + 1) (by omega)
    rw [fb_dn_0 (Nat.le_refl _), fb_dn_0 (Nat.le_refl _), fb_dn_0 (Nat.le_refl _)] at r
    exact ⟨1, br_t (nI_le (by omega) (by omega)) ⟨_, r⟩⟩
theorem fx_ct39 {post : SX → Prop} {a b : Nat} (ha : a < 4) (hb : b < 4) (hab : a ≠ b)
    (hp : post (fA, pe, ls, fb_cp (30 * a) (30 * b) rm 30, fb_cp (30 * a) (30 * b) ra 30, fb_cp (30 * a) (30 * b) rc 30, st, pl, hd, tX, tr)) :
    ∀ d k, k + d = 30 → ∀ n, d < n → wX_copyTable_39 post (nI a) (nI b) (nI 30) n (nI k) fA pe ls (fb_cp (30 * a) (30 * b) rm k) (fb_cp (30 * a) (30 * b) ra k) (fb_cp (30 * a) (30 * b) rc k) st pl hd tX tr := by
  intro d
  induction d with
  | zero =>
    intro k hk n hn
    obtain ⟨m, rfl⟩ : ∃ m, n = m + 1 := ⟨n - 1, by omega⟩
    obtain rfl : k = 30 := hk
    exact br_t (nI_le (Nat.le_refl _) (by omega)) hp
  | succ d ih =>
    intro k hk n hn
    obtain ⟨m, rfl⟩ : ∃ m, n = m + 1 := ⟨n - 1, by omega⟩
    refine br_f (nI_ge (by omega) (by omega)) ?_
    refine fx_cr (30 * a + k) (30 * b + k) ?_ ?_ (by omega) (by omega) ?_
    · rw [pk_mul, nI_add, Nat.mul_comm]
    · rw [pk_mul, nI_add, Nat.mul_comm]
    · refine nm_r (nI_1 k) ?_
      have r := ih (k + 1) (by omega) m (by omega)
      have e1 := fb_cp_s (a := 30 * a) (b := 30 * b) (w := 30) (n := k) rm (by omega) (by omega)
      have e2 := fb_cp_s (a := 30 * a) (b := 30 * b) (w := 30) (n := k) ra (by omega) (by omega)
      have e3 := fb_cp_s (a := 30 * a) (b := 30 * b) (w := 30) (n := k) rc (by omega) (by omega)
      rw [← e1, ← e2, ← e3] at r
      exact r
theorem fx_ct2 {post : SX → Prop} {a b : Nat} (ha : a < 4) (hb : b < 4) (hab : a ≠ b)
    (hp : post (fA, pe, fb_cp (5 * a) (5 * b) ls 5, fb_cp (30 * a) (30 * b) rm 30, fb_cp (30 * a) (30 * b) ra 30, fb_cp (30 * a) (30 * b) rc 30, st, pl, hd, tX, tr)) :
    ∀ d k, k + d = 5 → ∀ n, d < n → wX_copyTable_2 post (nI a) (nI b) fA n (nI k) pe (fb_cp (5 * a) (5 * b) ls k) rm ra rc st pl hd tX tr := by
  intro d
  induction d with
  | zero =>
    intro k hk n hn
    obtain ⟨m, rfl⟩ : ∃ m, n = m + 1 := ⟨n - 1, by omega⟩
    obtain rfl : k = 5 := hk
    have r := fx_ct39 ha hb hab hp 30 0 rfl 31 (by omega)
    rw [fb_cp_0, fb_cp_0, fb_cp_0] at r
    exact br_t (nI_le (Nat.le_refl _) (by omega)) ⟨_, r⟩
  | succ d ih =>
    intro k hk n hn
    obtain ⟨m, rfl⟩ : ∃ m, n = m + 1 := ⟨n - 1, by omega⟩
    refine br_f (nI_ge (b := 5) (by omega) (by omega)) ?_
    refine fx_lo b k rfl rfl (fx_lo a k rfl rfl ⟨vp_in_nI (by omega) (by omega), vp_in_nI (by omega) (by omega), ?_⟩)
    rw [nI_clamp (by omega), nI_clamp (by omega)]
    refine nm_r (fb_cp_s (w := 5) ls (by omega) (by omega)) ?_
    exact nm_r (nI_1 k) (ih (k + 1) (by omega) m (by omega))
theorem fx_ct {post : SX → Prop} {x y : Int32} (a b : Nat) (ex : x = nI a) (ey : y = nI b) (ha : a < 4) (hb : b < 4) (hab : a ≠ b)
    (hp : post (fA, pe, fb_cp (5 * a) (5 * b) ls 5, fb_cp (30 * a) (30 * b) rm 30, fb_cp (30 * a) (30 * b) ra 30, fb_cp (30 * a) (30 * b) rc 30, st, pl, hd, tX, tr)) :
    wpX_copyTable post (fA, pe, ls, rm, ra, rc, st, pl, hd, tX, tr) x y := by
  subst ex ey
  unfold wpX_copyTable
  have r := fx_ct2 ha hb hab hp 5 0 rfl 6 (by omega)
  rw [fb_cp_0] at r
  exact ⟨_, r⟩
end
end
section
/-! X's walks: the questions -/
def fb_ff (T : fb_Tab) (s h : Nat) (but : Option Nat) : Nat → Bool := fun i => decide (but ≠ some i) && fb_fit (T.2.1 s i) h
theorem fb_ff_t {T : fb_Tab} {s h i : Nat} {but : Option Nat} (hb : ¬ but = some i) (hf : (h ^^^ (T.2.1 s i % 64)) &&& (T.2.1 s i / 64) = 0) : fb_ff T s h but i = true := by
  simp only [fb_ff, fb_fit, hf, ne_eq, hb, not_false_eq_true, decide_true, Bool.and_self]
theorem fb_ff_b {T : fb_Tab} {s h i : Nat} {but : Option Nat} (hb : but = some i) : ¬ fb_ff T s h but i = true := by
  simp [fb_ff, hb]
theorem fb_ff_f {T : fb_Tab} {s h i : Nat} {but : Option Nat} (hf : ¬ (h ^^^ (T.2.1 s i % 64)) &&& (T.2.1 s i / 64) = 0) : ¬ fb_ff T s h but i = true := by
  unfold fb_ff fb_fit
  rw [decide_eq_false hf, Bool.and_false]
  decide
theorem fb_first_e (T : fb_Tab) (s h : Nat) (but : Option Nat) : fb_first T s h but = fb_find (fb_ff T s h but) (T.1 s) 0 := rfl
def fb_ri (b : Nat) : Option Nat → Int32
  | none => -1
  | some i => nI (b + i)
def fb_enc : Option (Nat × Nat) → Int32
  | none => -1
  | some x => nI (64 * x.1 + x.2)
def fb_oi (e : Int32) : Option Nat → Int32
  | none => e
  | some i => nI i
def fb_butI (b n : Nat) (but : Option Nat) (bx : Int32) : Prop := ∀ i, i < n → (nI (b + i) = bx ↔ but = some i)
theorem fb_but0 {b n : Nat} (h : b + n < 2 ^ 31) : fb_butI b n none (-1) := by
  intro i hi
  exact ⟨fun z => absurd z (fw_m1 (by omega)), fun z => nomatch z⟩
theorem fb_but1 {b n i : Nat} (h : b + n < 2 ^ 31) (hi : i < n) : fb_butI b n (some i) (nI (b + i)) := by
  intro j hj
  rw [nI_eq (by omega) (by omega)]
  exact ⟨fun e => congrArg some (by omega), fun e => by cases e; rfl⟩
theorem fb_enc_inj {a b : Option (Nat × Nat)} (ha : ∀ x, a = some x → x.1 < 20 ∧ x.2 < 64) (hb : ∀ x, b = some x → x.1 < 20 ∧ x.2 < 64) : fb_enc a = fb_enc b ↔ a = b := by
  refine ⟨fun e => ?_, fun e => by rw [e]⟩
  cases a with
  | none =>
    cases b with
    | none => rfl
    | some y =>
      have := hb y rfl
      exact absurd e.symm (fw_m1 (by omega))
  | some x =>
    have hx := ha x rfl
    cases b with
    | none => exact absurd e (fw_m1 (by omega))
    | some y =>
      have hy := hb y rfl
      have e2 : 64 * x.1 + x.2 = 64 * y.1 + y.2 := (nI_eq (by omega) (by omega)).mp e
      have e3 : x.1 = y.1 := by omega
      have e4 : x.2 = y.2 := by omega
      exact congrArg some (Prod.ext e3 e4)
theorem fb_go_n {T : fb_Tab} {p h : Nat} {but : Option Nat} (hf : fb_first T (p / 4) h but = none) : fb_go T p h but = none := by
  unfold fb_go
  rw [hf]
theorem fb_go_4 {T : fb_Tab} {p h i : Nat} {but : Option Nat} (hf : fb_first T (p / 4) h but = some i) (h4 : T.2.2.1 (p / 4) i = 4) : fb_go T p h but = none := by
  unfold fb_go
  rw [hf]
  exact if_pos h4
theorem fb_go_5 {T : fb_Tab} {p h i : Nat} {but : Option Nat} (hf : fb_first T (p / 4) h but = some i) (h5 : T.2.2.1 (p / 4) i = 5) : fb_go T p h but = some (p, fb_nh h (T.2.2.2 (p / 4) i)) := by
  unfold fb_go
  rw [hf]
  refine (if_neg (by omega)).trans ?_
  rw [if_pos h5]
theorem fb_go_o {T : fb_Tab} {p h i : Nat} {but : Option Nat} (hf : fb_first T (p / 4) h but = some i) (h4 : ¬ T.2.2.1 (p / 4) i = 4) (h5 : ¬ T.2.2.1 (p / 4) i = 5) : fb_go T p h but = some (p / 4 * 4 + T.2.2.1 (p / 4) i, fb_nh h (T.2.2.2 (p / 4) i)) := by
  unfold fb_go
  rw [hf]
  refine (if_neg h4).trans ?_
  rw [if_neg h5]
theorem fb_fate_n {T : fb_Tab} {pe : Nat → Int32} {n p h : Nat} (hg : fb_go T p h none = none) : fb_fate T pe (n + 1) p h = 1 := by
  rw [fb_fate, hg]
theorem fb_fate_d {T : fb_Tab} {pe : Nat → Int32} {n p h : Nat} {x : Nat × Nat} (hg : fb_go T p h none = some x) (hn : pe x.1 = -1) : fb_fate T pe (n + 1) p h = nI (100 + x.1) := by
  rw [fb_fate, hg]
  exact if_pos hn
theorem fb_fate_g {T : fb_Tab} {pe : Nat → Int32} {n p h b : Nat} {x : Nat × Nat} (hg : fb_go T p h none = some x) (hn : ¬ pe x.1 = -1) (hb : b < 20) (eb : pe x.1 = nI b) : fb_fate T pe (n + 1) p h = fb_fate T pe n b x.2 := by
  rw [fb_fate, hg]
  refine (if_neg hn).trans ?_
  rw [eb, nI_clamp (by omega)]
theorem fb_sees_s {T : fb_Tab} {pe : Nat → Int32} {s n p h : Nat} (hq : p / 4 = s) : fb_sees T pe s (n + 1) p h = true := by
  rw [fb_sees]
  exact if_pos hq
theorem fb_sees_n {T : fb_Tab} {pe : Nat → Int32} {s n p h : Nat} (hq : ¬ p / 4 = s) (hg : fb_go T p h none = none) : fb_sees T pe s (n + 1) p h = false := by
  rw [fb_sees, hg]
  exact if_neg hq
theorem fb_sees_d {T : fb_Tab} {pe : Nat → Int32} {s n p h : Nat} {x : Nat × Nat} (hq : ¬ p / 4 = s) (hg : fb_go T p h none = some x) (hn : pe x.1 = -1) : fb_sees T pe s (n + 1) p h = false := by
  rw [fb_sees, hg]
  exact (if_neg hq).trans (if_pos hn)
theorem fb_sees_g {T : fb_Tab} {pe : Nat → Int32} {s n p h b : Nat} {x : Nat × Nat} (hq : ¬ p / 4 = s) (hg : fb_go T p h none = some x) (hn : ¬ pe x.1 = -1) (hb : b < 20) (eb : pe x.1 = nI b) : fb_sees T pe s (n + 1) p h = fb_sees T pe s n b x.2 := by
  rw [fb_sees, hg]
  refine (if_neg hq).trans ((if_neg hn).trans ?_)
  rw [eb, nI_clamp (by omega)]
section
variable {fA : Int32} {pe ls rm ra rc st pl hd tX tr : Nat → Int32}
theorem fx_dec3 {post : Int32 → Prop} {t s h : Nat} {but : Option Nat} {bx : Int32} {T : fb_Tab} (R : fb_rep ls rm ra rc t T) (ht : t < 4) (hs : s < 5) (hb : fb_butI (6 * (5 * t + s)) (T.1 s) but bx) :
    ∀ d i, i + d = T.1 s → post (fb_ri (6 * (5 * t + s)) (fb_find (fb_ff T s h but) d i)) → ∀ n, d < n → wX_decidingRule_3 post (nI (5 * t + s)) (nI h) bx fA pe ls rm ra rc st pl hd tX tr n (nI i) := by
  obtain ⟨h6, hl, hm, _, _⟩ := R s hs
  have hin : vp_in (nI (5 * t + s)) 20 := vp_in_nI (by omega) (by omega)
  have hcl : (nI (5 * t + s)).toNatClampNeg = 5 * t + s := nI_clamp (by omega)
  intro d
  induction d with
  | zero =>
    intro i hi hp n hn
    obtain ⟨m, rfl⟩ : ∃ m, n = m + 1 := ⟨n - 1, by omega⟩
    refine And.intro hin (br_t ?_ hp)
    rw [hcl, hl]
    exact nI_le (by omega) (by omega)
  | succ d ih =>
    intro i hi hp n hn
    obtain ⟨m, rfl⟩ : ∃ m, n = m + 1 := ⟨n - 1, by omega⟩
    have hi' : i < T.1 s := by omega
    obtain ⟨em, hm4⟩ := hm i hi'
    have eq1 : nI (5 * t + s) * 6 + nI i = nI (6 * (5 * t + s) + i) := by
      rw [show (6 : Int32) = nI 6 from rfl, pk_mul, nI_add]
      exact congrArg nI (by omega)
    have hc : (nI (6 * (5 * t + s) + i)).toNatClampNeg = 6 * (5 * t + s) + i := nI_clamp (by omega)
    have hv : vp_in (nI (6 * (5 * t + s) + i)) 120 := vp_in_nI (by omega) (by omega)
    have e6 : rm (nI (6 * (5 * t + s) + i)).toNatClampNeg / 64 = nI (T.2.1 s i / 64) := by
      rw [hc, em]
      exact pk_div (d := 64) (by omega) (by omega) (by omega)
    have e7 : rm (nI (6 * (5 * t + s) + i)).toNatClampNeg - rm (nI (6 * (5 * t + s) + i)).toNatClampNeg / 64 * 64 = nI (T.2.1 s i % 64) := by
      rw [hc, em]
      exact pk_rem (d := 64) (by omega) (by omega) (by omega)
    refine And.intro hin (br_f ?_ (nm_r eq1 ⟨hv, by decide, nm_r e6 ⟨hv, by decide, nm_r e7 ?_⟩⟩))
    · rw [hcl, hl]
      exact nI_ge (by omega) (by omega)
    · by_cases hbt : but = some i
      · rw [fb_find_f (fb_ff_b hbt)] at hp
        exact br_t ((hb i hi').mpr hbt) (nm_r (nI_1 i) (ih (i + 1) (by omega) hp m (by omega)))
      · refine br_f (fun z => hbt ((hb i hi').mp z)) ?_
        rw [nx_xor, nx_and]
        by_cases hft : (h ^^^ (T.2.1 s i % 64)) &&& (T.2.1 s i / 64) = 0
        · rw [fb_find_t (fb_ff_t hbt hft)] at hp
          refine br_t ?_ hp
          rw [hft]
          rfl
        · rw [fb_find_f (fb_ff_f hft)] at hp
          have hlt : (h ^^^ (T.2.1 s i % 64)) &&& (T.2.1 s i / 64) ≤ T.2.1 s i / 64 := Nat.and_le_right
          exact br_f (nI_ne0 (by omega) (by omega)) (nm_r (nI_1 i) (ih (i + 1) (by omega) hp m (by omega)))
theorem fx_dec {post : Int32 → Prop} {x y bx : Int32} (t s h : Nat) (ex : x = nI (5 * t + s)) (ey : y = nI h) {but : Option Nat} {T : fb_Tab} (R : fb_rep ls rm ra rc t T) (ht : t < 4) (hs : s < 5)
    (hb : fb_butI (6 * (5 * t + s)) (T.1 s) but bx) (hn : fb_first T s h but = none → post (-1)) (hp : ∀ i, i < T.1 s → fb_first T s h but = some i → post (nI (6 * (5 * t + s) + i))) :
    wpX_decidingRule post (fA, pe, ls, rm, ra, rc, st, pl, hd, tX, tr) x y bx := by
  subst ex ey
  unfold wpX_decidingRule
  refine ⟨T.1 s + 1, fx_dec3 (t := t) (s := s) (h := h) (but := but) R ht hs hb (T.1 s) 0 (by omega) ?_ _ (by omega)⟩
  rw [← fb_first_e]
  cases hf : fb_first T s h but with
  | none => exact hn hf
  | some i => exact hp i (fb_first_lt hf) hf
theorem fx_go94 {post : Int32 → Prop} {z : Int32} (o h c : Nat) (ez : z = nI o) (hh : h < 64) (hc : c < 4096) (hp : post (nI (64 * o + fb_nh h c))) :
    wX_goingOut_94 post (nI h) (nI (c / 64)) (nI (c % 64)) z fA pe ls rm ra rc st pl hd tX tr := by
  have e : z * 64 + ((nI h &&& (nI (c / 64) ^^^ (-1))) ||| (nI (c % 64) &&& nI (c / 64))) = nI (64 * o + fb_nh h c) := by
    rw [fb_not (c / 64) (by omega) h hh, nx_and, fb_or, ez, show (64 : Int32) = nI 64 from rfl, pk_mul, nI_add]
    refine congrArg nI ?_
    unfold fb_nh
    omega
  unfold wX_goingOut_94
  rw [e]
  exact hp
theorem fx_go {post : Int32 → Prop} {x y z w : Int32} (t p h : Nat) (ex : x = nI t) (ey : y = nI p) (ez : z = nI h) {but : Option Nat} {T : fb_Tab} (R : fb_rep ls rm ra rc t T) (ht : t < 4) (hp20 : p < 20) (hh : h < 64)
    (hb : fb_butI (6 * (5 * t + p / 4)) (T.1 (p / 4)) but w) (hp : post (fb_enc (fb_go T p h but))) : wpX_goingOut post (fA, pe, ls, rm, ra, rc, st, pl, hd, tX, tr) x y z w := by
  subst ex ey ez
  obtain ⟨h6, hl, _, ha, hc⟩ := R (p / 4) (by omega)
  unfold wpX_goingOut
  refine ⟨by decide, nm_r (e' := nI (p / 4)) (pk_div (d := 4) (by omega) (by omega) (by omega)) (fx_lo t (p / 4) rfl rfl (fx_dec t (p / 4) h rfl rfl R ht (by omega) hb ?_ ?_))⟩
  · intro hf
    rw [fb_go_n hf] at hp
    exact br_t rfl hp
  · intro i hi hf
    obtain ⟨ea, ha6⟩ := ha i hi
    obtain ⟨ec, hc4⟩ := hc i hi
    have hcl : (nI (6 * (5 * t + p / 4) + i)).toNatClampNeg = 6 * (5 * t + p / 4) + i := nI_clamp (by omega)
    have hv : vp_in (nI (6 * (5 * t + p / 4) + i)) 120 := vp_in_nI (by omega) (by omega)
    rw [hcl, ea, ec]
    refine br_f (fw_m1 (by omega)) ⟨hv, pk_eq (T.2.2.1 (p / 4) i) 4 (fun e4 => ?_) (fun e4 => ⟨hv, by decide, nm_r (pk_div (d := 64) (by omega) (by omega) (by omega)) ⟨hv, by decide, nm_r (pk_rem (d := 64) (by omega) (by omega) (by omega)) ⟨hv, pk_eq (T.2.2.1 (p / 4) i) 5 (fun e5 => ?_) (fun e5 => ⟨hv, ?_⟩)⟩⟩⟩)⟩
    · rw [fb_go_4 hf e4] at hp
      exact hp
    · rw [fb_go_5 hf e5] at hp
      exact fx_go94 p h _ rfl hh hc4 hp
    · rw [fb_go_o hf e4 e5] at hp
      refine fx_go94 (p / 4 * 4 + T.2.2.1 (p / 4) i) h _ ?_ hh hc4 hp
      rw [show (4 : Int32) = nI 4 from rfl, pk_mul, nI_add]
theorem fx_goc {post : Int32 → Prop} {x y z : Int32} (t p h : Nat) (ex : x = nI t) (ey : y = nI p) (ez : z = nI h) {T : fb_Tab} (R : fb_rep ls rm ra rc t T) (ht : t < 4) (hp20 : p < 20) (hh : h < 64)
    (hn : fb_go T p h none = none → post (-1)) (hp : ∀ x, fb_go T p h none = some x → x.1 < 20 → x.2 < 64 → post (nI (64 * x.1 + x.2))) : wpX_goingOut post (fA, pe, ls, rm, ra, rc, st, pl, hd, tX, tr) x y z (-1) := by
  have h6 := (R (p / 4) (by omega)).1
  refine fx_go t p h ex ey ez (but := none) R ht hp20 hh (fb_but0 (by omega)) ?_
  cases hg : fb_go T p h none with
  | none => exact hn hg
  | some x => exact hp x hg (fb_go_lt (fb_rep_ok R) hp20 hh hg).1 (fb_go_lt (fb_rep_ok R) hp20 hh hg).2
theorem fx_div {o h : Nat} (ho : o < 20) (hh : h < 64) : nI (64 * o + h) / 64 = nI o := by
  refine (pk_div (d := 64) (by omega) (by omega) (by omega)).trans ?_
  exact congrArg nI (by omega)
theorem fx_rem {o h : Nat} (ho : o < 20) (hh : h < 64) : nI (64 * o + h) - nI (64 * o + h) / 64 * 64 = nI h := by
  refine (pk_rem (d := 64) (by omega) (by omega) (by omega)).trans ?_
  exact congrArg nI (by omega)
theorem fx_f18 {post : Int32 → Prop} {t : Nat} {T : fb_Tab} (R : fb_rep ls rm ra rc t T) (ht : t < 4) (hpe : fb_pok pe) :
    ∀ d k p h, k + d = 16 → p < 20 → h < 64 → post (fb_fate T pe d p h) → ∀ n, d < n → wX_fate_18 post (nI t) fA pe ls rm ra rc st pl hd tX tr n (nI p) (nI h) (nI k) := by
  intro d
  induction d with
  | zero =>
    intro k p h hk hp20 hh hp n hn
    obtain ⟨m, rfl⟩ : ∃ m, n = m + 1 := ⟨n - 1, by omega⟩
    exact br_t (nI_le (a := 16) (by omega) (by omega)) hp
  | succ d ih =>
    intro k p h hk hp20 hh hp n hn
    obtain ⟨m, rfl⟩ : ∃ m, n = m + 1 := ⟨n - 1, by omega⟩
    refine br_f (nI_ge (b := 16) (by omega) (by omega)) (fx_goc t p h rfl rfl rfl R ht hp20 hh ?_ ?_)
    · intro hg
      rw [fb_fate_n hg] at hp
      exact br_t rfl hp
    · intro x hg ho hh'
      refine br_f (fw_m1 (by omega)) ⟨by decide, nm_r (fx_div ho hh') ⟨vp_in_nI ho (by omega), ?_⟩⟩
      rw [nI_clamp (by omega)]
      by_cases hno : pe x.1 = -1
      · rw [fb_fate_d hg hno] at hp
        refine br_t hno ?_
        rw [show (100 : Int32) + nI x.1 = nI (100 + x.1) from nI_add 100 x.1]
        exact hp
      · obtain ⟨b, hb, eb⟩ := fb_pe_on hpe ho hno
        rw [fb_fate_g hg hno hb eb] at hp
        exact br_f hno ⟨vp_in_nI ho (by omega), nm_r eb ⟨by decide, nm_r (fx_rem ho hh') (nm_r (nI_1 k) (ih (k + 1) b x.2 (by omega) hb hh' hp m (by omega)))⟩⟩
theorem fx_to {post : Int32 → Prop} {f t : Nat} (hf : f < 40) (e : (f < 20 ∧ fA = nI t) ∨ (20 ≤ f ∧ t = 3)) (hp : post (nI t)) : wpX_tableOf post (fA, pe, ls, rm, ra, rc, st, pl, hd, tX, tr) (nI f) := by
  unfold wpX_tableOf
  rcases e with ⟨h1, h2⟩ | ⟨h1, h2⟩
  · refine br_f (nI_ge (b := 20) (by omega) (by omega)) ?_
    rw [h2]
    exact hp
  · subst h2
    exact br_t (nI_le (a := 20) (by omega) (by omega)) hp
theorem fx_fate {post : Int32 → Prop} {f t h : Nat} {T : fb_Tab} (R : fb_rep ls rm ra rc t T) (ht : t < 4) (hpe : fb_pok pe) (hf : f < 40) (hh : h < 64) (e : (f < 20 ∧ fA = nI t) ∨ (20 ≤ f ∧ t = 3))
    (hp : post (fb_fate T pe 16 (f % 20) h)) : wpX_fate post (fA, pe, ls, rm, ra, rc, st, pl, hd, tX, tr) (nI f) (nI h) := by
  unfold wpX_fate
  refine fx_to hf e ⟨by decide, nm_r (pk_rem (d := 20) (by omega) (by omega) (by omega)) ⟨17, ?_⟩⟩
  exact fx_f18 R ht hpe 16 0 (f % 20) h rfl (by omega) hh hp 17 (by omega)
theorem fx_c19 {post : Int32 → Prop} {t s : Nat} {T : fb_Tab} (R : fb_rep ls rm ra rc t T) (ht : t < 4) (hs : s < 5) (hpe : fb_pok pe) :
    ∀ d k p h, k + d = 16 → p < 20 → h < 64 → (fb_sees T pe s d p h = true → post 1) → (fb_sees T pe s d p h = false → post 0) → ∀ n, d < n → wX_comesTo_19 post (nI s) (nI t) fA pe ls rm ra rc st pl hd tX tr n (nI p) (nI h) (nI k) := by
  intro d
  induction d with
  | zero =>
    intro k p h hk hp20 hh hp1 hp0 n hn
    obtain ⟨m, rfl⟩ : ∃ m, n = m + 1 := ⟨n - 1, by omega⟩
    exact br_t (nI_le (a := 16) (by omega) (by omega)) (hp0 rfl)
  | succ d ih =>
    intro k p h hk hp20 hh hp1 hp0 n hn
    obtain ⟨m, rfl⟩ : ∃ m, n = m + 1 := ⟨n - 1, by omega⟩
    refine br_f (nI_ge (b := 16) (by omega) (by omega)) ⟨by decide, ?_⟩
    rw [show nI p / 4 = nI (p / 4) from pk_div (d := 4) (by omega) (by omega) (by omega)]
    refine pk_eq (p / 4) s (fun hq => hp1 (fb_sees_s hq)) (fun hq => fx_goc t p h rfl rfl rfl R ht hp20 hh ?_ ?_)
    · intro hg
      exact br_t rfl (hp0 (fb_sees_n hq hg))
    · intro x hg ho hh'
      rw [fx_div ho hh', nI_clamp (by omega)]
      refine br_f (fw_m1 (by omega)) ⟨by decide, vp_in_nI ho (by omega), ?_⟩
      by_cases hno : pe x.1 = -1
      · exact br_t hno (hp0 (fb_sees_d hq hg hno))
      · obtain ⟨b, hb, eb⟩ := fb_pe_on hpe ho hno
        rw [fb_sees_g hq hg hno hb eb] at hp1 hp0
        refine br_f hno ⟨by decide, vp_in_nI ho (by omega), nm_r eb ⟨by decide, nm_r (e' := nI x.2) ?_ (nm_r (nI_1 k) (ih (k + 1) b x.2 (by omega) hb hh' hp1 hp0 m (by omega)))⟩⟩
        have hr := fx_rem ho hh'
        rw [fx_div ho hh'] at hr
        exact hr
theorem fx_comes {post : Int32 → Prop} {f t s h : Nat} {T : fb_Tab} (R : fb_rep ls rm ra rc t T) (ht : t < 4) (hs : s < 5) (hpe : fb_pok pe) (hf : f < 40) (hh : h < 64) (e : (f < 20 ∧ fA = nI t) ∨ (20 ≤ f ∧ t = 3))
    (hp1 : fb_sees T pe s 16 (f % 20) h = true → post 1) (hp0 : fb_sees T pe s 16 (f % 20) h = false → post 0) : wpX_comesTo post (fA, pe, ls, rm, ra, rc, st, pl, hd, tX, tr) (nI f) (nI h) (nI s) := by
  unfold wpX_comesTo
  refine fx_to hf e ⟨by decide, nm_r (pk_rem (d := 20) (by omega) (by omega) (by omega)) ⟨17, ?_⟩⟩
  exact fx_c19 R ht hs hpe 16 0 (f % 20) h rfl (by omega) hh hp1 hp0 17 (by omega)
end
end
section
/-! X's walks: scans over packets and tables; counts over headers; a tick -/
section
variable {fA : Int32} {pe ls rm ra rc st pl hd tX tr : Nat → Int32}
theorem fx_tp2 {post : Int32 → Prop} {x : Int32} : ∀ d k, k + d = 8 → ((fb_find (fun k => decide (st k = 1 ∧ tX k = x)) d k).isSome = true → post 1) → ((fb_find (fun k => decide (st k = 1 ∧ tX k = x)) d k).isSome = false → post 0) →
    ∀ n, d < n → wX_treatsPackets_2 post x fA pe ls rm ra rc st pl hd tX tr n (nI k) := by
  intro d
  induction d with
  | zero =>
    intro k hk h1 h0 n hn
    obtain ⟨m, rfl⟩ : ∃ m, n = m + 1 := ⟨n - 1, by omega⟩
    exact br_t (nI_le (a := 8) (by omega) (by omega)) (h0 rfl)
  | succ d ih =>
    intro k hk h1 h0 n hn
    obtain ⟨m, rfl⟩ : ∃ m, n = m + 1 := ⟨n - 1, by omega⟩
    have hv : vp_in (nI k) 8 := vp_in_nI (by omega) (by omega)
    have hc : (nI k).toNatClampNeg = k := nI_clamp (by omega)
    refine br_f (nI_ge (b := 8) (by omega) (by omega)) ⟨hv, ?_⟩
    rw [hc]
    by_cases hs : st k = 1
    · refine br_t hs ⟨hv, ?_⟩
      by_cases ht : tX k = x
      · exact br_t ht (h1 (by rw [fb_find_t (decide_eq_true ⟨hs, ht⟩)]; rfl))
      · have hf : ¬ decide (st k = 1 ∧ tX k = x) = true := fun z => ht (of_decide_eq_true z).2
        rw [fb_find_f hf] at h1 h0
        exact br_f ht (nm_r (nI_1 k) (ih (k + 1) (by omega) h1 h0 m (by omega)))
    · have hf : ¬ decide (st k = 1 ∧ tX k = x) = true := fun z => hs (of_decide_eq_true z).1
      rw [fb_find_f hf] at h1 h0
      exact br_f hs (nm_r (nI_1 k) (ih (k + 1) (by omega) h1 h0 m (by omega)))
theorem fx_tp {post : Int32 → Prop} {x : Int32} (h1 : fb_usR st tX x = true → post 1) (h0 : fb_usR st tX x = false → post 0) : wpX_treatsPackets post (fA, pe, ls, rm, ra, rc, st, pl, hd, tX, tr) x := by
  unfold wpX_treatsPackets
  exact ⟨9, fx_tp2 8 0 rfl h1 h0 9 (by omega)⟩
theorem fx_ik {post : Int32 → Prop} {x : Int32} (h1 : (decide (x = fA) || fb_usR st tX x) = true → post 1) (h0 : (decide (x = fA) || fb_usR st tX x) = false → post 0) : wpX_isKept post (fA, pe, ls, rm, ra, rc, st, pl, hd, tX, tr) x := by
  unfold wpX_isKept
  by_cases ha : x = fA
  · exact br_t ha (h1 (by rw [decide_eq_true ha]; rfl))
  · rw [decide_eq_false ha, Bool.false_or] at h1 h0
    exact br_f ha (fx_tp (fun e => br_f (by decide) (h1 e)) (fun e => br_t rfl (h0 e)))
theorem fx_us2 {post : Int32 → Prop} : ∀ d k, k + d = 3 → post (fb_oi (-1) (fb_find (fun t => !(decide (nI t = fA) || fb_usR st tX (nI t))) d k)) → ∀ n, d < n → wX_unkeptSlot_2 post fA pe ls rm ra rc st pl hd tX tr n (nI k) := by
  intro d
  induction d with
  | zero =>
    intro k hk hp n hn
    obtain ⟨m, rfl⟩ : ∃ m, n = m + 1 := ⟨n - 1, by omega⟩
    exact br_t (nI_le (a := 3) (by omega) (by omega)) hp
  | succ d ih =>
    intro k hk hp n hn
    obtain ⟨m, rfl⟩ : ∃ m, n = m + 1 := ⟨n - 1, by omega⟩
    refine br_f (nI_ge (b := 3) (by omega) (by omega)) (fx_ik (fun e => ?_) (fun e => ?_))
    · rw [fb_find_f (by rw [e]; decide)] at hp
      exact br_f (by decide) (nm_r (nI_1 k) (ih (k + 1) (by omega) hp m (by omega)))
    · rw [fb_find_t (by rw [e]; rfl)] at hp
      exact br_t rfl hp
theorem fx_us {post : Int32 → Prop} (hp : post (fb_oi (-1) (fb_find (fun t => !(decide (nI t = fA) || fb_usR st tX (nI t))) 3 0))) : wpX_unkeptSlot post (fA, pe, ls, rm, ra, rc, st, pl, hd, tX, tr) := by
  unfold wpX_unkeptSlot
  exact ⟨4, fx_us2 3 0 rfl hp 4 (by omega)⟩
theorem fx_kt4 {post : Int32 → Prop} (f : Nat → Bool) (ef : ∀ t, f t = (decide (nI t = fA) || fb_usR st tX (nI t))) (hp : post (nI (fb_cnt f 3))) : ∀ d k, k + d = 3 → ∀ n, d < n → wX_keptTables_4 post fA pe ls rm ra rc st pl hd tX tr n (nI (fb_cnt f k)) (nI k) := by
  intro d
  induction d with
  | zero =>
    intro k hk n hn
    obtain ⟨m, rfl⟩ : ∃ m, n = m + 1 := ⟨n - 1, by omega⟩
    obtain rfl : k = 3 := hk
    exact br_t (nI_le (a := 3) (by omega) (by omega)) hp
  | succ d ih =>
    intro k hk n hn
    obtain ⟨m, rfl⟩ : ∃ m, n = m + 1 := ⟨n - 1, by omega⟩
    have r := ih (k + 1) (by omega) m (by omega)
    refine br_f (nI_ge (b := 3) (by omega) (by omega)) (fx_ik (fun e => ?_) (fun e => ?_))
    · rw [← ef] at e
      rw [fb_cnt_t e] at r
      exact br_f (by decide) (nm_r (nI_1 _) (nm_r (nI_1 k) r))
    · rw [← ef] at e
      rw [fb_cnt_f (by rw [e]; decide)] at r
      exact br_t rfl (nm_r (nI_1 k) r)
theorem fx_kt {post : Int32 → Prop} (hp : post (nI (fb_cnt (fun t => decide (nI t = fA) || fb_usR st tX (nI t)) 3))) : wpX_keptTables post (fA, pe, ls, rm, ra, rc, st, pl, hd, tX, tr) := by
  unfold wpX_keptTables
  exact ⟨4, fx_kt4 _ (fun _ => rfl) hp 3 0 rfl 4 (by omega)⟩
theorem fx_lf2 {post : Int32 → Prop} : ∀ d k, k + d = 8 → post (fb_oi (-1) (fb_find (fun k => decide (¬ st k = 1)) d k)) → ∀ n, d < n → wX_leastFreeNumber_2 post fA pe ls rm ra rc st pl hd tX tr n (nI k) := by
  intro d
  induction d with
  | zero =>
    intro k hk hp n hn
    obtain ⟨m, rfl⟩ : ∃ m, n = m + 1 := ⟨n - 1, by omega⟩
    exact br_t (nI_le (a := 8) (by omega) (by omega)) hp
  | succ d ih =>
    intro k hk hp n hn
    obtain ⟨m, rfl⟩ : ∃ m, n = m + 1 := ⟨n - 1, by omega⟩
    have hv : vp_in (nI k) 8 := vp_in_nI (by omega) (by omega)
    have hc : (nI k).toNatClampNeg = k := nI_clamp (by omega)
    refine br_f (nI_ge (b := 8) (by omega) (by omega)) ⟨hv, ?_⟩
    rw [hc]
    by_cases hs : st k = 1
    · rw [fb_find_f (fun z => (of_decide_eq_true z) hs)] at hp
      exact br_t hs (nm_r (nI_1 k) (ih (k + 1) (by omega) hp m (by omega)))
    · rw [fb_find_t (decide_eq_true hs)] at hp
      exact br_f hs hp
theorem fx_lf {post : Int32 → Prop} (hp : post (fb_oi (-1) (fb_find (fun k => decide (¬ st k = 1)) 8 0))) : wpX_leastFreeNumber post (fA, pe, ls, rm, ra, rc, st, pl, hd, tX, tr) := by
  unfold wpX_leastFreeNumber
  exact ⟨9, fx_lf2 8 0 rfl hp 9 (by omega)⟩
def fb_sum (f : Nat → Int32) : Nat → Int32
  | 0 => 0
  | n + 1 => fb_sum f n + f n
theorem fx_rv13 {post : Int32 → SX → Prop} (hp : post (fb_sum (fun s => ls (15 + s)) 5) (fA, pe, ls, rm, ra, rc, st, pl, hd, tX, tr)) : ∀ d k, k + d = 5 → ∀ n, d < n → wX_revert_13 post fA pe ls rm ra rc st pl hd tX tr n (fb_sum (fun s => ls (15 + s)) k) (nI k) := by
  intro d
  induction d with
  | zero =>
    intro k hk n hn
    obtain ⟨m, rfl⟩ : ∃ m, n = m + 1 := ⟨n - 1, by omega⟩
    obtain rfl : k = 5 := hk
    exact br_t (nI_le (a := 5) (by omega) (by omega)) hp
  | succ d ih =>
    intro k hk n hn
    obtain ⟨m, rfl⟩ : ∃ m, n = m + 1 := ⟨n - 1, by omega⟩
    refine br_f (nI_ge (b := 5) (by omega) (by omega)) (fx_lo 3 k rfl rfl ⟨vp_in_nI (by omega) (by omega), ?_⟩)
    rw [nI_clamp (by omega)]
    exact nm_e (nm_r (nI_1 k) (ih (k + 1) (by omega) m (by omega)))
theorem fx_cf5 {post : Int32 → Prop} {x w : Int32} {F : Nat → Int32} (hF : ∀ h, h < 64 → ∀ P : Int32 → Prop, P (F h) → wpX_fate P (fA, pe, ls, rm, ra, rc, st, pl, hd, tX, tr) x (nI h)) (hp : post (nI (fb_cnt (fun h => decide (F h = w)) 64))) :
    ∀ d k, k + d = 64 → ∀ n, d < n → wX_countFates_5 post x w fA pe ls rm ra rc st pl hd tX tr n (nI (fb_cnt (fun h => decide (F h = w)) k)) (nI k) := by
  intro d
  induction d with
  | zero =>
    intro k hk n hn
    obtain ⟨m, rfl⟩ : ∃ m, n = m + 1 := ⟨n - 1, by omega⟩
    obtain rfl : k = 64 := hk
    exact br_t (nI_le (a := 64) (by omega) (by omega)) hp
  | succ d ih =>
    intro k hk n hn
    obtain ⟨m, rfl⟩ : ∃ m, n = m + 1 := ⟨n - 1, by omega⟩
    have r := ih (k + 1) (by omega) m (by omega)
    refine br_f (nI_ge (b := 64) (by omega) (by omega)) (hF k (by omega) _ ?_)
    by_cases e : F k = w
    · rw [fb_cnt_t (decide_eq_true e)] at r
      exact br_t e (nm_r (nI_1 _) (nm_r (nI_1 k) r))
    · rw [fb_cnt_f (fun z => e (of_decide_eq_true z))] at r
      exact br_f e (nm_r (nI_1 k) r)
theorem fx_cf {post : Int32 → Prop} {x w : Int32} {F : Nat → Int32} (hF : ∀ h, h < 64 → ∀ P : Int32 → Prop, P (F h) → wpX_fate P (fA, pe, ls, rm, ra, rc, st, pl, hd, tX, tr) x (nI h)) (hp : post (nI (fb_cnt (fun h => decide (F h = w)) 64))) :
    wpX_countFates post (fA, pe, ls, rm, ra, rc, st, pl, hd, tX, tr) x w := by
  unfold wpX_countFates
  exact ⟨65, fx_cf5 hF hp 64 0 rfl 65 (by omega)⟩
theorem fx_na {post : Int32 → Prop} {x y z : Int32} {F : Nat → Int32} (hF : ∀ h, h < 64 → ∀ P : Int32 → Prop, P (F h) → wpX_fate P (fA, pe, ls, rm, ra, rc, st, pl, hd, tX, tr) x (nI h)) :
    ∀ d k, k + d = 64 → post (fb_oi (-2) (fb_find (fun h => decide (¬ nI h ≤ z ∧ F h = 100 + y)) d k)) → ∀ n, d < n → wX_nextArriving_23 post x y z fA pe ls rm ra rc st pl hd tX tr n (nI k) := by
  intro d
  induction d with
  | zero =>
    intro k hk hp n hn
    obtain ⟨m, rfl⟩ : ∃ m, n = m + 1 := ⟨n - 1, by omega⟩
    exact br_t (nI_le (a := 64) (by omega) (by omega)) hp
  | succ d ih =>
    intro k hk hp n hn
    obtain ⟨m, rfl⟩ : ∃ m, n = m + 1 := ⟨n - 1, by omega⟩
    refine br_f (nI_ge (b := 64) (by omega) (by omega)) ?_
    by_cases hz : nI k ≤ z
    · rw [fb_find_f (fun q => (of_decide_eq_true q).1 hz)] at hp
      exact br_t hz (nm_r (nI_1 k) (ih (k + 1) (by omega) hp m (by omega)))
    · refine br_f hz (hF k (by omega) _ ?_)
      by_cases e : F k = 100 + y
      · rw [fb_find_t (decide_eq_true ⟨hz, e⟩)] at hp
        exact br_t e hp
      · rw [fb_find_f (fun q => e (of_decide_eq_true q).2)] at hp
        exact br_f e (nm_r (nI_1 k) (ih (k + 1) (by omega) hp m (by omega)))
theorem fx_vi {post : Int32 → Prop} {x y : Int32} {G : Nat → Bool} (hG : ∀ h, h < 64 → ∀ P : Int32 → Prop, (G h = true → P 1) → (G h = false → P 0) → wpX_comesTo P (fA, pe, ls, rm, ra, rc, st, pl, hd, tX, tr) x (nI h) y) (hp : post (nI (fb_cnt G 64))) :
    ∀ d k, k + d = 64 → ∀ n, d < n → wX_visiting_24 post x y fA pe ls rm ra rc st pl hd tX tr n (nI (fb_cnt G k)) (nI k) := by
  intro d
  induction d with
  | zero =>
    intro k hk n hn
    obtain ⟨m, rfl⟩ : ∃ m, n = m + 1 := ⟨n - 1, by omega⟩
    obtain rfl : k = 64 := hk
    exact br_t (nI_le (a := 64) (by omega) (by omega)) hp
  | succ d ih =>
    intro k hk n hn
    obtain ⟨m, rfl⟩ : ∃ m, n = m + 1 := ⟨n - 1, by omega⟩
    have r := ih (k + 1) (by omega) m (by omega)
    refine br_f (nI_ge (b := 64) (by omega) (by omega)) (hG k (by omega) _ (fun e => ?_) (fun e => ?_))
    · rw [fb_cnt_t e] at r
      exact br_f (by decide) (nm_r (nI_1 _) (nm_r (nI_1 k) r))
    · rw [fb_cnt_f (by rw [e]; decide)] at r
      exact br_t rfl (nm_r (nI_1 k) r)
theorem fx_di {post : Int32 → Prop} {x : Int32} {F G : Nat → Int32} (hF : ∀ h, h < 64 → ∀ P : Int32 → Prop, P (F h) → wpX_fate P (fA, pe, ls, rm, ra, rc, st, pl, hd, tX, tr) x (nI h)) (hG : ∀ h, h < 64 → ∀ P : Int32 → Prop, P (G h) → wpX_fate P (fA, pe, ls, rm, ra, rc, st, pl, hd, tX, tr) (x + 20) (nI h))
    (hp : post (nI (fb_cnt (fun h => decide (¬ F h = G h)) 64))) :
    ∀ d k, k + d = 64 → ∀ n, d < n → wX_differing_15 post x fA pe ls rm ra rc st pl hd tX tr n (nI (fb_cnt (fun h => decide (¬ F h = G h)) k)) (nI k) := by
  intro d
  induction d with
  | zero =>
    intro k hk n hn
    obtain ⟨m, rfl⟩ : ∃ m, n = m + 1 := ⟨n - 1, by omega⟩
    obtain rfl : k = 64 := hk
    exact br_t (nI_le (a := 64) (by omega) (by omega)) hp
  | succ d ih =>
    intro k hk n hn
    obtain ⟨m, rfl⟩ : ∃ m, n = m + 1 := ⟨n - 1, by omega⟩
    have r := ih (k + 1) (by omega) m (by omega)
    refine br_f (nI_ge (b := 64) (by omega) (by omega)) (hF k (by omega) _ (hG k (by omega) _ ?_))
    by_cases e : F k = G k
    · rw [fb_cnt_f (fun z => (of_decide_eq_true z) e)] at r
      exact br_t e (nm_r (nI_1 k) r)
    · rw [fb_cnt_t (decide_eq_true e)] at r
      exact br_f e (nm_r (nI_1 _) (nm_r (nI_1 k) r))
theorem fx_dg {post : Int32 → Prop} {s i : Nat} {T : fb_Tab} (R : fb_rep ls rm ra rc 3 T) (hs : s < 5) (hi : i < T.1 s) (hp : post (nI (fb_cnt (fun h => decide (fb_first T s h none = some i)) 64))) :
    ∀ d k, k + d = 64 → ∀ n, d < n → wX_deciding_31 post (nI (5 * 3 + s)) (nI (6 * (5 * 3 + s) + i)) fA pe ls rm ra rc st pl hd tX tr n (nI (fb_cnt (fun h => decide (fb_first T s h none = some i)) k)) (nI k) := by
  have h6 := (R s hs).1
  intro d
  induction d with
  | zero =>
    intro k hk n hn
    obtain ⟨m, rfl⟩ : ∃ m, n = m + 1 := ⟨n - 1, by omega⟩
    obtain rfl : k = 64 := hk
    exact br_t (nI_le (a := 64) (by omega) (by omega)) hp
  | succ d ih =>
    intro k hk n hn
    obtain ⟨m, rfl⟩ : ∃ m, n = m + 1 := ⟨n - 1, by omega⟩
    have r := ih (k + 1) (by omega) m (by omega)
    refine br_f (nI_ge (b := 64) (by omega) (by omega)) (fx_dec 3 s k rfl rfl (but := none) R (by omega) hs (fb_but0 (by omega)) (fun hf => ?_) (fun j hj hf => ?_))
    · have hne : ¬ decide (fb_first T s k none = some i) = true := by
        intro z
        have z2 := of_decide_eq_true z
        rw [hf] at z2
        cases z2
      rw [fb_cnt_f hne] at r
      exact br_f (fun z => fw_m1 (by omega) z.symm) (nm_r (nI_1 k) r)
    · by_cases e : j = i
      · subst e
        rw [fb_cnt_t (decide_eq_true hf)] at r
        exact br_t rfl (nm_r (nI_1 _) (nm_r (nI_1 k) r))
      · rw [fb_cnt_f (fun z => e (Option.some.inj (hf.symm.trans (of_decide_eq_true z))))] at r
        refine br_f (fun z => e ?_) (nm_r (nI_1 k) r)
        have := (nI_eq (by omega) (by omega)).mp z
        omega
def fb_nd (T : fb_Tab) (s i c : Nat) : Prop := fb_go T (4 * s + c / 64) (c % 64) none = fb_go T (4 * s + c / 64) (c % 64) (some i)
theorem fx_n34 {post J : Int32 → Prop} {s i p : Nat} {T : fb_Tab} (R : fb_rep ls rm ra rc 3 T) (hs : s < 5) (hi : i < T.1 s) (hp4 : p < 4) :
    ∀ d k, k + d = 64 → ((∃ j, k ≤ j ∧ j < 64 ∧ ¬ fb_nd T s i (64 * p + j)) → post 0) → ((∀ j, k ≤ j → j < 64 → fb_nd T s i (64 * p + j)) → J (nI (p + 1))) →
    ∀ n, d < n → wX_needless_34 post J (nI s) (nI (6 * (5 * 3 + s) + i)) (nI p) fA pe ls rm ra rc st pl hd tX tr n (nI k) := by
  have h6 := (R s hs).1
  intro d
  induction d with
  | zero =>
    intro k hk h0 h1 n hn
    obtain ⟨m, rfl⟩ : ∃ m, n = m + 1 := ⟨n - 1, by omega⟩
    exact br_t (nI_le (a := 64) (by omega) (by omega)) (nm_r (nI_1 p) (h1 (fun j h2 h3 => absurd h2 (by omega))))
  | succ d ih =>
    intro k hk h0 h1 n hn
    obtain ⟨m, rfl⟩ : ∃ m, n = m + 1 := ⟨n - 1, by omega⟩
    have e6 : nI s * 4 + nI p = nI (4 * s + p) := by
      rw [show (4 : Int32) = nI 4 from rfl, pk_mul, nI_add]
      exact congrArg nI (by omega)
    have q : (4 * s + p) / 4 = s := by omega
    have b0 : fb_butI (6 * (5 * 3 + (4 * s + p) / 4)) (T.1 ((4 * s + p) / 4)) none (-1) := by
      rw [q]
      exact fb_but0 (by omega)
    have b1 : fb_butI (6 * (5 * 3 + (4 * s + p) / 4)) (T.1 ((4 * s + p) / 4)) (some i) (nI (6 * (5 * 3 + s) + i)) := by
      rw [q]
      exact fb_but1 (by omega) hi
    have ok := fb_rep_ok R
    have en : fb_nd T s i (64 * p + k) ↔ fb_go T (4 * s + p) k none = fb_go T (4 * s + p) k (some i) := by
      unfold fb_nd
      rw [show (64 * p + k) / 64 = p by omega, show (64 * p + k) % 64 = k by omega]
    refine br_f (nI_ge (b := 64) (by omega) (by omega)) (nm_r e6 (fx_go 3 (4 * s + p) k rfl rfl rfl R (by omega) (by omega) (by omega) b0 (fx_go 3 (4 * s + p) k rfl rfl rfl R (by omega) (by omega) (by omega) b1 ?_)))
    have ei := fb_enc_inj (a := fb_go T (4 * s + p) k none) (b := fb_go T (4 * s + p) k (some i)) (fun x hx => fb_go_lt ok (by omega) (by omega) hx) (fun x hx => fb_go_lt ok (by omega) (by omega) hx)
    by_cases e : fb_nd T s i (64 * p + k)
    · refine br_t (ei.mpr (en.mp e)) (nm_r (nI_1 k) (ih (k + 1) (by omega) (fun ⟨j, a, b, c⟩ => h0 ⟨j, by omega, b, c⟩) (fun h2 => h1 (fun j h3 h4 => ?_)) m (by omega)))
      by_cases ej : j = k
      · rw [ej]; exact e
      · exact h2 j (by omega) h4
    · exact br_f (fun z => e (en.mpr (ei.mp z))) (h0 ⟨k, Nat.le_refl _, by omega, e⟩)
theorem fx_n25 {post : Int32 → Prop} {s i : Nat} {T : fb_Tab} (R : fb_rep ls rm ra rc 3 T) (hs : s < 5) (hi : i < T.1 s) :
    ∀ d p, p + d = 4 → ((∃ c, 64 * p ≤ c ∧ c < 256 ∧ ¬ fb_nd T s i c) → post 0) → ((∀ c, 64 * p ≤ c → c < 256 → fb_nd T s i c) → post 1) →
    ∀ n, d < n → wX_needless_25 post (nI s) (nI (6 * (5 * 3 + s) + i)) fA pe ls rm ra rc st pl hd tX tr n (nI p) := by
  intro d
  induction d with
  | zero =>
    intro p hk h0 h1 n hn
    obtain ⟨m, rfl⟩ : ∃ m, n = m + 1 := ⟨n - 1, by omega⟩
    exact br_t (nI_le (a := 4) (by omega) (by omega)) (h1 (fun c h2 h3 => absurd h2 (by omega)))
  | succ d ih =>
    intro p hk h0 h1 n hn
    obtain ⟨m, rfl⟩ : ∃ m, n = m + 1 := ⟨n - 1, by omega⟩
    refine br_f (nI_ge (b := 4) (by omega) (by omega)) ⟨65, fx_n34 R hs hi (by omega) 64 0 rfl (fun ⟨j, a, b, c⟩ => h0 ⟨64 * p + j, by omega, by omega, c⟩) (fun h2 => ?_) 65 (by omega)⟩
    refine ih (p + 1) (by omega) (fun ⟨j, a, b, c⟩ => h0 ⟨j, by omega, b, c⟩) (fun h3 => h1 (fun c h4 h5 => ?_)) m (by omega)
    by_cases ec : c < 64 * (p + 1)
    · have := h2 (c - 64 * p) (by omega) (by omega)
      rw [show 64 * p + (c - 64 * p) = c by omega] at this
      exact this
    · exact h3 c (by omega) h5
theorem fx_treat {post : SX → Prop} {τ : Nat → fb_Tab} {tt : Nat → Nat} {k p h m : Nat} (hk : k < 8) (hp20 : p < 20) (ep : pl k = nI p) (hh : h < 64) (eh : hd k = nI h) (hm : m < 16) (em : tr k = nI m) (ht : tt k < 4) (et : tX k = nI (tt k))
    (R : fb_rep ls rm ra rc (tt k) (τ (tt k))) (hpe : fb_pok pe) {Q : fb_Q} (eQ : Q = fb_pk τ pe tt k (st, pl, hd, tr)) (hp : post (fA, pe, ls, rm, ra, rc, Q.1, Q.2.1, Q.2.2.1, tX, Q.2.2.2)) : wpX_treatPacket post (fA, pe, ls, rm, ra, rc, st, pl, hd, tX, tr) (nI k) := by
  have hv : vp_in (nI k) 8 := vp_in_nI hk (by omega)
  have hc : (nI k).toNatClampNeg = k := nI_clamp (by omega)
  have c1 : (pl k).toNatClampNeg = p := by rw [ep, nI_clamp (by omega)]
  have c2 : (hd k).toNatClampNeg = h := by rw [eh, nI_clamp (by omega)]
  have eg : fb_go (τ (tt k)) (pl k).toNatClampNeg (hd k).toNatClampNeg none = fb_go (τ (tt k)) p h none := by rw [c1, c2]
  unfold wpX_treatPacket
  rw [hc]
  refine ⟨hv, hv, hv, fx_goc (tt k) p h et ep eh R ht hp20 hh (fun hg => ?_) (fun x hg ho hh' => ?_)⟩
  · rw [fb_pk_n (q := (st, pl, hd, tr)) (eg.trans hg)] at eQ
    subst eQ
    exact ⟨hv, hv, nm_e (br_t rfl ⟨hv, nm_e hp⟩)⟩
  · refine ⟨hv, hv, nm_e (br_f (fw_m1 (by omega)) ⟨by decide, nm_r (fx_div ho hh') ⟨by decide, hv, nm_r (e' := upd hd k (nI x.2)) (by rw [fx_rem ho hh']) ⟨vp_in_nI ho (by omega), ?_⟩⟩⟩)⟩
    rw [nI_clamp (by omega)]
    by_cases hno : pe x.1 = -1
    · rw [fb_pk_d (q := (st, pl, hd, tr)) (eg.trans hg) hno] at eQ
      subst eQ
      exact br_t hno ⟨hv, nm_e ⟨hv, nm_e hp⟩⟩
    · refine br_f hno ⟨vp_in_nI ho (by omega), hv, nm_e ⟨hv, ?_⟩⟩
      rw [pk_us, em, nI_1]
      by_cases h15 : m = 15
      · have e15 : tr k = 15 := by rw [em, h15]; rfl
        rw [fb_pk_l (q := (st, pl, hd, tr)) (eg.trans hg) hno e15] at eQ
        subst eQ
        refine br_f (nI_nlt (b := 16) (by omega) (by omega)) ⟨hv, nm_e ?_⟩
        dsimp only at hp
        rw [em, nI_1] at hp
        exact hp
      · have e15 : ¬ tr k = 15 := fun z => h15 ((nI_eq (b := 15) (by omega) (by omega)).mp (em.symm.trans z))
        rw [fb_pk_g (q := (st, pl, hd, tr)) (eg.trans hg) hno e15] at eQ
        subst eQ
        refine br_t (nI_lt (b := 16) (by omega) (by omega)) ?_
        dsimp only at hp
        rw [em, nI_1] at hp
        exact hp
end
end
section
/-! X's walks: a tick, the start -/
theorem fb_tk_t {τ : Nat → fb_Tab} {pe : Nat → Int32} {tt : Nat → Nat} {n : Nat} {q : fb_Q} (h : (fb_tk τ pe tt n q).1 n = 1) : fb_tk τ pe tt (n + 1) q = fb_pk τ pe tt n (fb_tk τ pe tt n q) := by
  rw [fb_tk]
  exact if_pos h
theorem fb_tk_f {τ : Nat → fb_Tab} {pe : Nat → Int32} {tt : Nat → Nat} {n : Nat} {q : fb_Q} (h : ¬ (fb_tk τ pe tt n q).1 n = 1) : fb_tk τ pe tt (n + 1) q = fb_tk τ pe tt n q := by
  rw [fb_tk]
  exact if_neg h
def fb_fl (q : fb_Q) (n : Nat) : Nat := fb_cnt (fun j => decide (q.1 j = 1)) n
theorem fb_fl_s (τ : Nat → fb_Tab) (pe : Nat → Int32) (tt : Nat → Nat) (q : fb_Q) (n : Nat) : fb_cnt (fun j => decide ((fb_tk τ pe tt (n + 1) q).1 j = 1)) n = fb_fl (fb_tk τ pe tt n q) n := by
  refine fb_cnt_congr fun j hj => ?_
  rw [fb_tk_st τ pe tt q hj]
section
variable {fA : Int32} {pe ls rm ra rc st pl hd tX tr tY : Nat → Int32}
theorem fx_t25 {post : Int32 → SX → Prop} {J : Int32 → Int32 → Int32 → (Nat → Int32) → (Nat → Int32) → (Nat → Int32) → (Nat → Int32) → (Nat → Int32) → (Nat → Int32) → (Nat → Int32) → (Nat → Int32) → (Nat → Int32) → (Nat → Int32) → Prop}
    {k c : Nat} (hk : k < 8) (h1 : st k = 1 → J (nI (c + 1)) (nI (k + 1)) fA pe ls rm ra rc st pl hd tX tr) (h0 : ¬ st k = 1 → J (nI c) (nI (k + 1)) fA pe ls rm ra rc st pl hd tX tr) : wX_tick_25 post J (nI c) (nI k) fA pe ls rm ra rc st pl hd tX tr := by
  have hv : vp_in (nI k) 8 := vp_in_nI hk (by omega)
  have hc : (nI k).toNatClampNeg = k := nI_clamp (by omega)
  unfold wX_tick_25
  rw [hc]
  by_cases e : st k = 1
  · exact ⟨hv, br_t e (nm_r (nI_1 c) (nm_r (nI_1 k) (h1 e)))⟩
  · exact ⟨hv, br_f e (nm_r (nI_1 k) (h0 e))⟩
theorem fx_t4 {post : Int32 → SX → Prop} {τ : Nat → fb_Tab} {tt sg : Nat → Nat} {q : fb_Q} (hpe : fb_pok pe) (hR : ∀ k, k < 8 → q.1 k = 1 → tt k < 4 ∧ fb_rep ls rm ra rc (tt k) (τ (tt k)))
    (h : fb_pkok q.1 q.2.1 q.2.2.1 q.2.2.2 tX tY tt sg)
    (hp : post (nI (fb_fl (fb_tk τ pe tt 8 q) 8)) (fA, pe, ls, rm, ra, rc, (fb_tk τ pe tt 8 q).1, (fb_tk τ pe tt 8 q).2.1, (fb_tk τ pe tt 8 q).2.2.1, tX, (fb_tk τ pe tt 8 q).2.2.2)) :
    ∀ d k, k + d = 8 → ∀ n, d < n → wX_tick_4 post n (nI (fb_fl (fb_tk τ pe tt k q) k)) (nI k) fA pe ls rm ra rc ((fb_tk τ pe tt k q).1) ((fb_tk τ pe tt k q).2.1) ((fb_tk τ pe tt k q).2.2.1) tX ((fb_tk τ pe tt k q).2.2.2) := by
  intro d
  induction d with
  | zero =>
    intro k hk n hn
    obtain ⟨m, rfl⟩ : ∃ m, n = m + 1 := ⟨n - 1, by omega⟩
    obtain rfl : k = 8 := hk
    exact br_t (nI_le (a := 8) (by omega) (by omega)) hp
  | succ d ih =>
    intro k hk n hn
    obtain ⟨m, rfl⟩ : ∃ m, n = m + 1 := ⟨n - 1, by omega⟩
    have hv : vp_in (nI k) 8 := vp_in_nI (by omega) (by omega)
    have hc : (nI k).toNatClampNeg = k := nI_clamp (by omega)
    have r := ih (k + 1) (by omega) m (by omega)
    have hfl := fb_fl_s τ pe tt q k
    have r1 : (fb_tk τ pe tt (k + 1) q).1 k = 1 → wX_tick_4 post m (nI (fb_fl (fb_tk τ pe tt k q) k + 1)) (nI (k + 1)) fA pe ls rm ra rc ((fb_tk τ pe tt (k + 1) q).1) ((fb_tk τ pe tt (k + 1) q).2.1) ((fb_tk τ pe tt (k + 1) q).2.2.1) tX ((fb_tk τ pe tt (k + 1) q).2.2.2) := by
      intro e
      rw [← hfl, ← fb_cnt_t (f := fun j => decide ((fb_tk τ pe tt (k + 1) q).1 j = 1)) (decide_eq_true e)]
      exact r
    have r0 : ¬ (fb_tk τ pe tt (k + 1) q).1 k = 1 → wX_tick_4 post m (nI (fb_fl (fb_tk τ pe tt k q) k)) (nI (k + 1)) fA pe ls rm ra rc ((fb_tk τ pe tt (k + 1) q).1) ((fb_tk τ pe tt (k + 1) q).2.1) ((fb_tk τ pe tt (k + 1) q).2.2.1) tX ((fb_tk τ pe tt (k + 1) q).2.2.2) := by
      intro e
      rw [← hfl, ← fb_cnt_f (f := fun j => decide ((fb_tk τ pe tt (k + 1) q).1 j = 1)) (fun z => e (of_decide_eq_true z))]
      exact r
    refine br_f (nI_ge (b := 8) (by omega) (by omega)) ⟨hv, ?_⟩
    rw [hc]
    obtain ⟨ok, hst⟩ := fb_tk_ok (τ := τ) hpe (fun j hj hj1 => fb_rep_ok (hR j hj hj1).2) h k (by omega)
    by_cases e : (fb_tk τ pe tt k q).1 k = 1
    · obtain ⟨⟨p, hp20, ep⟩, ⟨hh, hh64, eh⟩, ⟨mm, hm, em⟩, ht, et, _⟩ := ok k (by omega) e
      obtain ⟨ht4, R⟩ := hR k (by omega) (hst k e)
      refine br_t e (fx_treat (τ := τ) (tt := tt) (by omega) hp20 ep hh64 eh hm em ht4 et R hpe (fb_tk_t e) ?_)
      exact fx_t25 (by omega) r1 r0
    · rw [fb_tk_f e] at r1 r0
      exact br_f e (fx_t25 (by omega) r1 r0)
theorem fx_tick {post : Int32 → SX → Prop} {τ : Nat → fb_Tab} {tt sg : Nat → Nat} (hpe : fb_pok pe) (hR : ∀ k, k < 8 → st k = 1 → tt k < 4 ∧ fb_rep ls rm ra rc (tt k) (τ (tt k)))
    (h : fb_pkok st pl hd tr tX tY tt sg) (Q : fb_Q) (eQ : fb_tk τ pe tt 8 (st, pl, hd, tr) = Q)
    (hp : post (nI (fb_fl Q 8)) (fA, pe, ls, rm, ra, rc, Q.1, Q.2.1, Q.2.2.1, tX, Q.2.2.2)) : wpX_tick post (fA, pe, ls, rm, ra, rc, st, pl, hd, tX, tr) := by
  have r := fx_t4 (fA := fA) (post := post) (q := (st, pl, hd, tr)) hpe hR h (by rw [eQ]; exact hp) 8 0 rfl 9 (by omega)
  unfold wpX_tick
  exact ⟨9, r⟩
/-- the links of a new object, n of them set -/
def fb_li (n : Nat) : Nat → Int32 := fun a => if a < n then -1 else 0
theorem fb_li_0 : fb_li 0 = fun _ => 0 := by
  funext a
  exact if_neg (by omega)
theorem fb_li_s (n : Nat) : upd (fb_li n) n (-1) = fb_li (n + 1) := by
  funext a
  simp only [upd, fb_li]
  by_cases e : a = n
  · rw [if_pos e, if_pos (by omega)]
  · rw [if_neg e]
    by_cases h : a < n
    · rw [if_pos h, if_pos (by omega)]
    · rw [if_neg h, if_neg (by omega)]
theorem fb_li_ok : fb_pok (fb_li 20) := fun _ ha => Or.inl (if_pos ha)
theorem fx_i91 {post : SX → Prop} (hp : post (fA, fb_li 20, ls, rm, ra, rc, st, pl, hd, tX, tr)) : ∀ d k, k + d = 20 → ∀ n, d < n → wX_init_91 post fA n (nI k) (fb_li k) ls rm ra rc st pl hd tX tr := by
  intro d
  induction d with
  | zero =>
    intro k hk n hn
    obtain ⟨m, rfl⟩ : ∃ m, n = m + 1 := ⟨n - 1, by omega⟩
    obtain rfl : k = 20 := hk
    exact br_t (nI_le (a := 20) (by omega) (by omega)) hp
  | succ d ih =>
    intro k hk n hn
    obtain ⟨m, rfl⟩ : ∃ m, n = m + 1 := ⟨n - 1, by omega⟩
    refine br_f (nI_ge (b := 20) (by omega) (by omega)) ⟨vp_in_nI (by omega) (by omega), ?_⟩
    rw [nI_clamp (by omega)]
    exact nm_r (fb_li_s k) (nm_r (nI_1 k) (ih (k + 1) (by omega) m (by omega)))
theorem fx_init {post : SX → Prop} (hp : post (0, fb_li 20, fun _ => 0, fun _ => 0, fun _ => 0, fun _ => 0, fun _ => 0, fun _ => 0, fun _ => 0, fun _ => 0, fun _ => 0)) : wpX_init post := by
  unfold wpX_init
  have r := fx_i91 hp 20 0 rfl 21 (by omega)
  rw [fb_li_0] at r
  exact ⟨_, r⟩
end
end
section
/-! Y's walks: numbers, rules put and shifted, tables copied -/
section
variable {fB oP oH sn : Int32} {pe ls rm ra rc st pl hd tY tr : Nat → Int32}
theorem fy_pl {post : Int32 → Prop} {n : Nat} (h : n < 20) (hp : post 0) : wpY_badPlace post (fB, oP, oH, sn, pe, ls, rm, ra, rc, st, pl, hd, tY, tr) (nI n) := by
  unfold wpY_badPlace
  exact br_f (nI_pos (by omega)) (br_t (nI_le (b := 19) (by omega) (by omega)) hp)
theorem fy_plb {post : Int32 → Prop} {x : Int32} (h : x < 0 ∨ nI 20 ≤ x) (hp : post 1) : wpY_badPlace post (fB, oP, oH, sn, pe, ls, rm, ra, rc, st, pl, hd, tY, tr) x := by
  unfold wpY_badPlace
  rcases h with h | h
  · exact br_t h hp
  · obtain ⟨a, b, c⟩ := fw_big h (b := 19) (by omega) (by omega)
    exact br_f c (br_f a hp)
theorem fy_by {post : Int32 → Prop} {n : Nat} (h : n < 64) (hp : post 0) : wpY_badByte post (fB, oP, oH, sn, pe, ls, rm, ra, rc, st, pl, hd, tY, tr) (nI n) := by
  unfold wpY_badByte
  exact br_f (nI_pos (by omega)) (br_t (nI_le (b := 63) (by omega) (by omega)) hp)
theorem fy_byb {post : Int32 → Prop} {x : Int32} (h : x < 0 ∨ nI 64 ≤ x) (hp : post 1) : wpY_badByte post (fB, oP, oH, sn, pe, ls, rm, ra, rc, st, pl, hd, tY, tr) x := by
  unfold wpY_badByte
  rcases h with h | h
  · exact br_t h hp
  · obtain ⟨a, b, c⟩ := fw_big h (b := 63) (by omega) (by omega)
    exact br_f c (br_f a hp)
theorem fy_fr {post : Int32 → Prop} {n : Nat} (h : n < 40) (hp : post 0) : wpY_badFrom post (fB, oP, oH, sn, pe, ls, rm, ra, rc, st, pl, hd, tY, tr) (nI n) := by
  unfold wpY_badFrom
  exact br_f (nI_pos (by omega)) (br_t (nI_le (b := 39) (by omega) (by omega)) hp)
theorem fy_frb {post : Int32 → Prop} {x : Int32} (h : x < 0 ∨ nI 40 ≤ x) (hp : post 1) : wpY_badFrom post (fB, oP, oH, sn, pe, ls, rm, ra, rc, st, pl, hd, tY, tr) x := by
  unfold wpY_badFrom
  rcases h with h | h
  · exact br_t h hp
  · obtain ⟨a, b, c⟩ := fw_big h (b := 39) (by omega) (by omega)
    exact br_f c (br_f a hp)
theorem fb_rep0 {ls rm ra rc : Nat → Int32} {T : fb_Tab} {s : Nat} (R : fb_rep ls rm ra rc 0 T) (hs : s < 5) : T.1 s ≤ 6 ∧ ls s = nI (T.1 s) := by
  obtain ⟨h6, hl, _⟩ := R s hs
  rw [show 5 * 0 + s = s by omega] at hl
  exact ⟨h6, hl⟩
theorem fy_nr {post : Int32 → Prop} {s i : Nat} {T : fb_Tab} (R : fb_rep ls rm ra rc 0 T) (hs : s < 5) (hi : i < T.1 s) (hp : post 0) : wpY_noRule post (fB, oP, oH, sn, pe, ls, rm, ra, rc, st, pl, hd, tY, tr) (nI s) (nI i) := by
  obtain ⟨h6, hl⟩ := fb_rep0 R hs
  unfold wpY_noRule
  refine br_f (nI_pos (by omega)) (br_f (nI_nlt (a := 4) (by omega) (by omega)) (br_f (nI_pos (by omega)) ⟨vp_in_nI (by omega) (by omega), br_t ?_ hp⟩))
  rw [nI_clamp (by omega), hl]
  exact nI_lt hi (by omega)
theorem fy_nr_s {post : Int32 → Prop} {x y : Int32} (h : x < 0 ∨ nI 5 ≤ x) (hp : post 1) : wpY_noRule post (fB, oP, oH, sn, pe, ls, rm, ra, rc, st, pl, hd, tY, tr) x y := by
  unfold wpY_noRule
  rcases h with h | h
  · exact br_t h hp
  · obtain ⟨a, b, c⟩ := fw_big h (b := 4) (by omega) (by omega)
    exact br_f c (br_t b hp)
theorem fy_nr_i {post : Int32 → Prop} {s : Nat} {y : Int32} {T : fb_Tab} (R : fb_rep ls rm ra rc 0 T) (hs : s < 5) (h : y < 0 ∨ nI (T.1 s) ≤ y) (hp : post 1) : wpY_noRule post (fB, oP, oH, sn, pe, ls, rm, ra, rc, st, pl, hd, tY, tr) (nI s) y := by
  obtain ⟨h6, hl⟩ := fb_rep0 R hs
  unfold wpY_noRule
  refine br_f (nI_pos (by omega)) (br_f (nI_nlt (a := 4) (by omega) (by omega)) ?_)
  by_cases h0 : y < 0
  · exact br_t h0 hp
  · refine br_f h0 ⟨vp_in_nI (by omega) (by omega), br_f ?_ hp⟩
    rw [nI_clamp (by omega), hl]
    rcases h with h | h
    · exact absurd h h0
    · exact Int32.not_lt.mpr h
theorem fy_put {post : SY → Prop} {x y z w : Int32} (q : Nat) (ew : w = nI q) (hq : q < 120) (hp : post (fB, oP, oH, sn, pe, ls, upd rm q x, upd ra q y, upd rc q z, st, pl, hd, tY, tr)) : wpY_put post (fB, oP, oH, sn, pe, ls, rm, ra, rc, st, pl, hd, tY, tr) w x y z := by
  subst ew
  have hc : (nI q).toNatClampNeg = q := nI_clamp (by omega)
  have hv : vp_in (nI q) 120 := vp_in_nI hq (by omega)
  unfold wpY_put
  refine ⟨hv, nm_r (e' := upd rm q x) (by rw [hc]) ⟨hv, nm_r (e' := upd ra q y) (by rw [hc]) ⟨hv, nm_r (e' := upd rc q z) (by rw [hc]) hp⟩⟩⟩
theorem fy_d18 {post : Int32 → SY → Prop} {s M I : Nat} (hs : s < 5) (hM : M < 6) (hl : ls s = nI (M + 1))
    (hp : post (nI M) (fB, oP, oH, sn, pe, upd ls s (nI M), fb_up I (6 * s + M) rm, fb_up I (6 * s + M) ra, fb_up I (6 * s + M) rc, st, pl, hd, tY, tr)) :
    ∀ d K, K + d = 6 * s + M → I ≤ K → ∀ n, d < n → wY_drop_18 post (nI s) n (nI K) fB oP oH sn pe ls (fb_up I K rm) (fb_up I K ra) (fb_up I K rc) st pl hd tY tr := by
  have hv : vp_in (nI s) 20 := vp_in_nI (by omega) (by omega)
  have hc : (nI s).toNatClampNeg = s := nI_clamp (by omega)
  have eL : (6 : Int32) * nI s + nI (M + 1) - 1 = nI (6 * s + M) := by
    rw [show (6 : Int32) = nI 6 from rfl, pk_mul, nI_add, ← Nat.add_assoc, nI_pred]
  intro d
  induction d with
  | zero =>
    intro K hK hIK n hn
    obtain ⟨m, rfl⟩ : ∃ m, n = m + 1 := ⟨n - 1, by omega⟩
    obtain rfl : K = 6 * s + M := hK
    refine And.intro hv (br_t ?_ ⟨hv, hv, nm_r (e' := upd ls s (nI M)) ?_ ⟨hv, ?_⟩⟩)
    · rw [hc, hl, eL]
      exact nI_le (Nat.le_refl _) (by omega)
    · rw [hc, hl, nI_pred]
    · rw [hc, pk_us]
      exact hp
  | succ d ih =>
    intro K hK hIK n hn
    obtain ⟨m, rfl⟩ : ∃ m, n = m + 1 := ⟨n - 1, by omega⟩
    have hv1 : vp_in (nI K + 1) 120 := by rw [nI_1]; exact vp_in_nI (by omega) (by omega)
    have hc1 : (nI K + 1).toNatClampNeg = K + 1 := by rw [nI_1]; exact nI_clamp (by omega)
    refine And.intro hv (br_f ?_ ⟨hv1, hv1, hv1, ?_⟩)
    · rw [hc, hl, eL]
      exact nI_ge (by omega) (by omega)
    · rw [hc1]
      refine fy_put K rfl (by omega) (nm_r (nI_1 K) ?_)
      have r := ih (K + 1) (by omega) (by omega) m (by omega)
      rw [← fb_up_s hIK rm, ← fb_up_s hIK ra, ← fb_up_s hIK rc] at r
      exact r
theorem fy_drop {post : Int32 → SY → Prop} {s i M : Nat} {T : fb_Tab} (R : fb_rep ls rm ra rc 0 T) (hs : s < 5) (hi : i < T.1 s) (hM : M + 1 = T.1 s)
    (hp : post (nI M) (fB, oP, oH, sn, pe, upd ls s (nI M), fb_up (6 * s + i) (6 * s + M) rm, fb_up (6 * s + i) (6 * s + M) ra, fb_up (6 * s + i) (6 * s + M) rc, st, pl, hd, tY, tr)) : wpY_drop post (fB, oP, oH, sn, pe, ls, rm, ra, rc, st, pl, hd, tY, tr) (nI s) (nI i) := by
  obtain ⟨h6, hl⟩ := fb_rep0 R hs
  rw [← hM] at hl
  unfold wpY_drop
  refine fy_nr R hs hi (br_t rfl (nm_r (e' := nI (6 * s + i)) ?_ ?_))
  · rw [show (6 : Int32) = nI 6 from rfl, pk_mul, nI_add]
  · have r := fy_d18 hs (by omega) hl hp (M - i) (6 * s + i) (by omega) (Nat.le_refl _) (M - i + 1) (by omega)
    rw [fb_up_0 (Nat.le_refl _), fb_up_0 (Nat.le_refl _), fb_up_0 (Nat.le_refl _)] at r
    exact ⟨_, r⟩
theorem fy_m75 {post : Int32 → SY → Prop} {x y z : Int32} {s j L : Nat} (hs : s < 5) (hj : 6 * s + j ≤ L) (hL : L < 6 * s + 6)
    (hp : post 0 (fB, oP, oH, sn, pe, upd ls s (ls s + 1), upd (fb_dn (6 * s + j) L rm) (6 * s + j) x, upd (fb_dn (6 * s + j) L ra) (6 * s + j) y, upd (fb_dn (6 * s + j) L rc) (6 * s + j) z, st, pl, hd, tY, tr)) :
    ∀ d K, K = 6 * s + j + d → K ≤ L → ∀ n, d < n → wY_move_75 post (nI s) (nI j) x y z n (nI K) fB oP oH sn pe ls (fb_dn K L rm) (fb_dn K L ra) (fb_dn K L rc) st pl hd tY tr := by
  have hv : vp_in (nI s) 20 := vp_in_nI (by omega) (by omega)
  have hc : (nI s).toNatClampNeg = s := nI_clamp (by omega)
  have eJ : (6 : Int32) * nI s + nI j = nI (6 * s + j) := by
    rw [show (6 : Int32) = nI 6 from rfl, pk_mul, nI_add]
  intro d
  induction d with
  | zero =>
    intro K hK hKL n hn
    obtain ⟨m, rfl⟩ : ∃ m, n = m + 1 := ⟨n - 1, by omega⟩
    obtain rfl : K = 6 * s + j := hK
    refine br_t ?_ (fy_put (6 * s + j) eJ (by omega) ⟨hv, hv, nm_r (e' := upd ls s (ls s + 1)) (by rw [hc]) hp⟩)
    rw [eJ]
    exact nI_le (Nat.le_refl _) (by omega)
  | succ d ih =>
    intro K hK hKL n hn
    obtain ⟨m, rfl⟩ : ∃ m, n = m + 1 := ⟨n - 1, by omega⟩
    obtain ⟨K, rfl⟩ : ∃ k', K = k' + 1 := ⟨K - 1, by omega⟩
    have hv1 : vp_in (nI (K + 1) - 1) 120 := by rw [nI_pred]; exact vp_in_nI (by omega) (by omega)
    have hc1 : (nI (K + 1) - 1).toNatClampNeg = K := by rw [nI_pred]; exact nI_clamp (by omega)
    refine br_f ?_ ⟨hv1, hv1, hv1, ?_⟩
    · rw [eJ]
      exact nI_ge (by omega) (by omega)
    · rw [hc1]
      refine fy_put (K + 1) rfl (by omega) (nm_r (pk_m1 K) ?_)
      have r := ih K (by omega) (by omega) m (by omega)
      rw [← fb_dn_s hKL rm, ← fb_dn_s hKL ra, ← fb_dn_s hKL rc] at r
      exact r
theorem fy_move {post : Int32 → SY → Prop} {s i j M : Nat} {T : fb_Tab} (R : fb_rep ls rm ra rc 0 T) (hs : s < 5) (hi : i < T.1 s) (hj : j < T.1 s) (hM : M + 1 = T.1 s)
    (hp : post 0 (fB, oP, oH, sn, pe, upd (upd ls s (nI M)) s (nI (M + 1)), upd (fb_dn (6 * s + j) (6 * s + M) (fb_up (6 * s + i) (6 * s + M) rm)) (6 * s + j) (rm (6 * s + i)), upd (fb_dn (6 * s + j) (6 * s + M) (fb_up (6 * s + i) (6 * s + M) ra)) (6 * s + j) (ra (6 * s + i)), upd (fb_dn (6 * s + j) (6 * s + M) (fb_up (6 * s + i) (6 * s + M) rc)) (6 * s + j) (rc (6 * s + i)), st, pl, hd, tY, tr)) :
    wpY_move post (fB, oP, oH, sn, pe, ls, rm, ra, rc, st, pl, hd, tY, tr) (nI s) (nI i) (nI j) := by
  obtain ⟨h6, hl⟩ := fb_rep0 R hs
  have hv : vp_in (nI (6 * s + i)) 120 := vp_in_nI (by omega) (by omega)
  have hc : (nI (6 * s + i)).toNatClampNeg = 6 * s + i := nI_clamp (by omega)
  have hcs : (nI s).toNatClampNeg = s := nI_clamp (by omega)
  have eI : (6 : Int32) * nI s + nI i = nI (6 * s + i) := by
    rw [show (6 : Int32) = nI 6 from rfl, pk_mul, nI_add]
  have eM : (6 : Int32) * nI s + nI M = nI (6 * s + M) := by
    rw [show (6 : Int32) = nI 6 from rfl, pk_mul, nI_add]
  unfold wpY_move
  refine fy_nr R hs hi (br_t rfl (fy_nr R hs hj (br_t rfl (nm_r eI ?_))))
  rw [hc]
  refine ⟨hv, nm_e ⟨hv, nm_e ⟨hv, nm_e (fy_drop R hs hi hM ⟨vp_in_nI (by omega) (by omega), nm_r (e' := nI (6 * s + M)) ?_ ?_⟩)⟩⟩⟩
  · rw [hcs, pk_us, eM]
  · have r := fy_m75 (fB := fB) (oP := oP) (oH := oH) (sn := sn) (pe := pe) (ls := upd ls s (nI M)) (rm := fb_up (6 * s + i) (6 * s + M) rm) (ra := fb_up (6 * s + i) (6 * s + M) ra) (rc := fb_up (6 * s + i) (6 * s + M) rc)
      (st := st) (pl := pl) (hd := hd) (tY := tY) (tr := tr) (post := post) (x := rm (6 * s + i)) (y := ra (6 * s + i)) (z := rc (6 * s + i)) (s := s) (j := j) (L := 6 * s + M) hs (by omega) (by omega) (by rw [pk_us, nI_1]; exact hp) (M - j) (6 * s + M) (by omega) (Nat.le_refl _) (M - j + 1) (by omega)
    rw [fb_dn_0 (Nat.le_refl _), fb_dn_0 (Nat.le_refl _), fb_dn_0 (Nat.le_refl _)] at r
    exact ⟨_, r⟩
theorem fy_ct35 {post : SY → Prop} {a b : Nat} (ha : a < 4) (hb : b < 4) (hab : a ≠ b)
    (hp : post (fB, oP, oH, sn, pe, ls, fb_cp (30 * a) (30 * b) rm 30, fb_cp (30 * a) (30 * b) ra 30, fb_cp (30 * a) (30 * b) rc 30, st, pl, hd, tY, tr)) :
    ∀ d k, k + d = 30 → ∀ n, d < n → wY_copyTable_35 post (nI a) (nI b) n (nI k) fB oP oH sn pe ls (fb_cp (30 * a) (30 * b) rm k) (fb_cp (30 * a) (30 * b) ra k) (fb_cp (30 * a) (30 * b) rc k) st pl hd tY tr := by
  intro d
  induction d with
  | zero =>
    intro k hk n hn
    obtain ⟨m, rfl⟩ : ∃ m, n = m + 1 := ⟨n - 1, by omega⟩
    obtain rfl : k = 30 := hk
    exact br_t (nI_le (a := 30) (by omega) (by omega)) hp
  | succ d ih =>
    intro k hk n hn
    obtain ⟨m, rfl⟩ : ∃ m, n = m + 1 := ⟨n - 1, by omega⟩
    have e1 : (30 : Int32) * nI a + nI k = nI (30 * a + k) := by rw [show (30 : Int32) = nI 30 from rfl, pk_mul, nI_add]
    have e2 : (30 : Int32) * nI b + nI k = nI (30 * b + k) := by rw [show (30 : Int32) = nI 30 from rfl, pk_mul, nI_add]
    have hv : vp_in (30 * nI a + nI k) 120 := by rw [e1]; exact vp_in_nI (by omega) (by omega)
    have hc : ((30 : Int32) * nI a + nI k).toNatClampNeg = 30 * a + k := by rw [e1]; exact nI_clamp (by omega)
    refine br_f (nI_ge (b := 30) (by omega) (by omega)) ⟨hv, hv, hv, ?_⟩
    rw [hc]
    refine fy_put (30 * b + k) e2 (by omega) (nm_r (nI_1 k) ?_)
    have r := ih (k + 1) (by omega) m (by omega)
    have e3 := fb_cp_s (a := 30 * a) (b := 30 * b) (w := 30) (n := k) rm (by omega) (by omega)
    have e4 := fb_cp_s (a := 30 * a) (b := 30 * b) (w := 30) (n := k) ra (by omega) (by omega)
    have e5 := fb_cp_s (a := 30 * a) (b := 30 * b) (w := 30) (n := k) rc (by omega) (by omega)
    rw [← e3, ← e4, ← e5] at r
    exact r
theorem fy_ct2 {post : SY → Prop} {a b : Nat} (ha : a < 4) (hb : b < 4) (hab : a ≠ b)
    (hp : post (fB, oP, oH, sn, pe, fb_cp (5 * a) (5 * b) ls 5, fb_cp (30 * a) (30 * b) rm 30, fb_cp (30 * a) (30 * b) ra 30, fb_cp (30 * a) (30 * b) rc 30, st, pl, hd, tY, tr)) :
    ∀ d k, k + d = 5 → ∀ n, d < n → wY_copyTable_2 post (nI a) (nI b) fB oP oH sn n (nI k) pe (fb_cp (5 * a) (5 * b) ls k) rm ra rc st pl hd tY tr := by
  intro d
  induction d with
  | zero =>
    intro k hk n hn
    obtain ⟨m, rfl⟩ : ∃ m, n = m + 1 := ⟨n - 1, by omega⟩
    obtain rfl : k = 5 := hk
    have r := fy_ct35 ha hb hab hp 30 0 rfl 31 (by omega)
    rw [fb_cp_0, fb_cp_0, fb_cp_0] at r
    exact br_t (nI_le (a := 5) (by omega) (by omega)) ⟨_, r⟩
  | succ d ih =>
    intro k hk n hn
    obtain ⟨m, rfl⟩ : ∃ m, n = m + 1 := ⟨n - 1, by omega⟩
    have e1 : (5 : Int32) * nI a + nI k = nI (5 * a + k) := by rw [show (5 : Int32) = nI 5 from rfl, pk_mul, nI_add]
    have e2 : (5 : Int32) * nI b + nI k = nI (5 * b + k) := by rw [show (5 : Int32) = nI 5 from rfl, pk_mul, nI_add]
    refine br_f (nI_ge (b := 5) (by omega) (by omega)) ?_
    rw [e1, e2, nI_clamp (by omega), nI_clamp (by omega)]
    refine ⟨vp_in_nI (by omega) (by omega), vp_in_nI (by omega) (by omega), nm_r (fb_cp_s (w := 5) ls (by omega) (by omega)) ?_⟩
    exact nm_r (nI_1 k) (ih (k + 1) (by omega) m (by omega))
theorem fy_ct {post : SY → Prop} {x y : Int32} (a b : Nat) (ex : x = nI a) (ey : y = nI b) (ha : a < 4) (hb : b < 4) (hab : a ≠ b)
    (hp : post (fB, oP, oH, sn, pe, fb_cp (5 * a) (5 * b) ls 5, fb_cp (30 * a) (30 * b) rm 30, fb_cp (30 * a) (30 * b) ra 30, fb_cp (30 * a) (30 * b) rc 30, st, pl, hd, tY, tr)) :
    wpY_copyTable post (fB, oP, oH, sn, pe, ls, rm, ra, rc, st, pl, hd, tY, tr) x y := by
  subst ex ey
  unfold wpY_copyTable
  have r := fy_ct2 ha hb hab hp 5 0 rfl 6 (by omega)
  rw [fb_cp_0] at r
  exact ⟨_, r⟩
end
end
section
/-! Y's walks: the questions -/
def fb_o1 : Option (Nat × Nat) → Int32
  | none => -1
  | some x => nI x.1
def fb_o2 (h : Nat) : Option (Nat × Nat) → Int32
  | none => nI h
  | some x => nI x.2
theorem fb_seen_n {T : fb_Tab} {pe : Nat → Int32} {n p h a : Nat} (hg : fb_go T p h none = none) : fb_seen T pe (n + 1) p h a = a ||| 2 ^ (p / 4) := by
  rw [fb_seen, hg]
theorem fb_seen_d {T : fb_Tab} {pe : Nat → Int32} {n p h a : Nat} {x : Nat × Nat} (hg : fb_go T p h none = some x) (hn : pe x.1 = -1) : fb_seen T pe (n + 1) p h a = a ||| 2 ^ (p / 4) := by
  rw [fb_seen, hg]
  exact if_pos hn
theorem fb_seen_g {T : fb_Tab} {pe : Nat → Int32} {n p h a b : Nat} {x : Nat × Nat} (hg : fb_go T p h none = some x) (hn : ¬ pe x.1 = -1) (hb : b < 20) (eb : pe x.1 = nI b) : fb_seen T pe (n + 1) p h a = fb_seen T pe n b x.2 (a ||| 2 ^ (p / 4)) := by
  rw [fb_seen, hg]
  refine (if_neg hn).trans ?_
  rw [eb, nI_clamp (by omega)]
section
variable {fB oP oH sn : Int32} {pe ls rm ra rc st pl hd tY tr : Nat → Int32}
theorem fy_fits {post : Int32 → Prop} {q h m : Nat} (hq : q < 120) (em : rm q = nI m) (hm : m < 4096) (h1 : (h ^^^ (m % 64)) &&& (m / 64) = 0 → post 1) (h0 : ¬ (h ^^^ (m % 64)) &&& (m / 64) = 0 → post 0) : wpY_fits post (fB, oP, oH, sn, pe, ls, rm, ra, rc, st, pl, hd, tY, tr) (nI q) (nI h) := by
  have hv : vp_in (nI q) 120 := vp_in_nI hq (by omega)
  have hc : (nI q).toNatClampNeg = q := nI_clamp (by omega)
  have e1 : nI m &&& 63 = nI (m % 64) := pk_andN (by omega) 6 (by decide)
  have e2 : nI m >>> ((6 : Int32) &&& 31) = nI (m / 64) := pk_shrN (by omega) _ 6 (by decide)
  unfold wpY_fits
  refine ⟨hv, hv, ?_⟩
  rw [hc, em, e1, e2, nx_xor, nx_and]
  by_cases e : (h ^^^ (m % 64)) &&& (m / 64) = 0
  · exact br_t (by rw [e]; rfl) (h1 e)
  · have hlt : (h ^^^ (m % 64)) &&& (m / 64) ≤ m / 64 := Nat.and_le_right
    exact br_f (nI_ne0 (by omega) (by omega)) (h0 e)
theorem fy_r14 {post : Int32 → Prop} {t s h : Nat} {but : Option Nat} {bx : Int32} {T : fb_Tab} (R : fb_rep ls rm ra rc t T) (ht : t < 4) (hs : s < 5) (hb : fb_butI (6 * (5 * t + s)) (T.1 s) but bx) :
    ∀ d i, i + d = T.1 s → post (fb_ri (6 * (5 * t + s)) (fb_find (fb_ff T s h but) d i)) → ∀ n, d < n → wY_ruleFor_14 post (nI t) (nI s) (nI h) bx (nI (6 * (5 * t + s))) fB oP oH sn pe ls rm ra rc st pl hd tY tr n (nI (6 * (5 * t + s) + i)) := by
  obtain ⟨h6, hl, hm, _, _⟩ := R s hs
  have e5 : (5 : Int32) * nI t + nI s = nI (5 * t + s) := by rw [show (5 : Int32) = nI 5 from rfl, pk_mul, nI_add]
  have hin : vp_in (5 * nI t + nI s) 20 := by rw [e5]; exact vp_in_nI (by omega) (by omega)
  have hcl : ((5 : Int32) * nI t + nI s).toNatClampNeg = 5 * t + s := by rw [e5]; exact nI_clamp (by omega)
  intro d
  induction d with
  | zero =>
    intro i hi hp n hn
    obtain ⟨m, rfl⟩ : ∃ m, n = m + 1 := ⟨n - 1, by omega⟩
    refine And.intro hin (br_t ?_ hp)
    rw [hcl, hl, nI_add]
    exact nI_le (by omega) (by omega)
  | succ d ih =>
    intro i hi hp n hn
    obtain ⟨m, rfl⟩ : ∃ m, n = m + 1 := ⟨n - 1, by omega⟩
    have hi' : i < T.1 s := by omega
    obtain ⟨em, hm4⟩ := hm i hi'
    refine And.intro hin (br_f ?_ ?_)
    · rw [hcl, hl, nI_add]
      exact nI_ge (by omega) (by omega)
    · by_cases hbt : but = some i
      · rw [fb_find_f (fb_ff_b hbt)] at hp
        exact br_t ((hb i hi').mpr hbt) (nm_r (nI_1 _) (ih (i + 1) (by omega) hp m (by omega)))
      · refine br_f (fun z => hbt ((hb i hi').mp z)) (fy_fits (by omega) em hm4 (fun hft => ?_) (fun hft => ?_))
        · rw [fb_find_t (fb_ff_t hbt hft)] at hp
          exact br_f (by decide) hp
        · rw [fb_find_f (fb_ff_f hft)] at hp
          exact br_t rfl (nm_r (nI_1 _) (ih (i + 1) (by omega) hp m (by omega)))
theorem fy_rf {post : Int32 → Prop} {x y z bx : Int32} (t s h : Nat) (ex : x = nI t) (ey : y = nI s) (ez : z = nI h) {but : Option Nat} {T : fb_Tab} (R : fb_rep ls rm ra rc t T) (ht : t < 4) (hs : s < 5)
    (hb : fb_butI (6 * (5 * t + s)) (T.1 s) but bx) (hn : fb_first T s h but = none → post (-1)) (hp : ∀ i, i < T.1 s → fb_first T s h but = some i → post (nI (6 * (5 * t + s) + i))) :
    wpY_ruleFor post (fB, oP, oH, sn, pe, ls, rm, ra, rc, st, pl, hd, tY, tr) x y z bx := by
  subst ex ey ez
  have e5 : (6 : Int32) * (5 * nI t + nI s) = nI (6 * (5 * t + s)) := by rw [show (5 : Int32) = nI 5 from rfl, pk_mul, nI_add, show (6 : Int32) = nI 6 from rfl, pk_mul]
  unfold wpY_ruleFor
  refine nm_r e5 ⟨T.1 s + 1, fy_r14 (t := t) (s := s) (h := h) (but := but) R ht hs hb (T.1 s) 0 (by omega) ?_ _ (by omega)⟩
  rw [← fb_first_e]
  cases hf : fb_first T s h but with
  | none => exact hn hf
  | some i => exact hp i (fb_first_lt hf) hf
theorem fy_treat {post : SY → Prop} {x y z w : Int32} (t p h : Nat) (ex : x = nI t) (ey : y = nI p) (ez : z = nI h) {but : Option Nat} {T : fb_Tab} (R : fb_rep ls rm ra rc t T) (ht : t < 4) (hp20 : p < 20) (hh : h < 64)
    (hb : fb_butI (6 * (5 * t + p / 4)) (T.1 (p / 4)) but w) (hp : post (fB, fb_o1 (fb_go T p h but), fb_o2 h (fb_go T p h but), sn, pe, ls, rm, ra, rc, st, pl, hd, tY, tr)) : wpY_treat post (fB, oP, oH, sn, pe, ls, rm, ra, rc, st, pl, hd, tY, tr) x y z w := by
  subst ex ey ez
  obtain ⟨h6, hl, _, ha, hc⟩ := R (p / 4) (by omega)
  have eq4 : nI p / 4 = nI (p / 4) := pk_div (d := 4) (by omega) (by omega) (by omega)
  unfold wpY_treat
  refine ⟨by decide, fy_rf t (p / 4) h rfl eq4 rfl R ht (by omega) hb ?_ ?_⟩
  · intro hf
    rw [fb_go_n hf] at hp
    exact br_t (by decide) hp
  · intro i hi hf
    obtain ⟨ea, ha6⟩ := ha i hi
    obtain ⟨ec, hc4⟩ := hc i hi
    have hcl : (nI (6 * (5 * t + p / 4) + i)).toNatClampNeg = 6 * (5 * t + p / 4) + i := nI_clamp (by omega)
    have hv : vp_in (nI (6 * (5 * t + p / 4) + i)) 120 := vp_in_nI (by omega) (by omega)
    have es : nI (T.2.2.2 (p / 4) i) >>> ((6 : Int32) &&& 31) = nI (T.2.2.2 (p / 4) i / 64) := pk_shrN (by omega) _ 6 (by decide)
    have eh : (nI h &&& (nI (T.2.2.2 (p / 4) i / 64) ^^^ (-1))) ||| (nI (T.2.2.2 (p / 4) i) &&& nI (T.2.2.2 (p / 4) i / 64)) = nI (fb_nh h (T.2.2.2 (p / 4) i)) := by
      rw [fb_not _ (by omega) h hh, nx_and, fb_or, fb_cand _ hc4]
      rfl
    rw [hcl, ea, ec]
    refine br_f (nI_pos (by omega)) ⟨hv, pk_eq (T.2.2.1 (p / 4) i) 4 (fun e4 => ?_) (fun e4 => ⟨hv, nm_r es ⟨hv, nm_r eh ⟨hv, pk_eq (T.2.2.1 (p / 4) i) 5 (fun e5 => ?_) (fun e5 => ⟨by decide, hv, nm_r (e' := nI (p / 4 * 4 + T.2.2.1 (p / 4) i)) ?_ ?_⟩)⟩⟩⟩)⟩
    · rw [fb_go_4 hf e4] at hp
      exact hp
    · rw [fb_go_5 hf e5] at hp
      exact hp
    · rw [eq4, show (4 : Int32) = nI 4 from rfl, pk_mul, nI_add]
    · rw [fb_go_o hf e4 e5] at hp
      exact hp
theorem fy_f32 {post : Int32 → SY → Prop} {t : Nat} {T : fb_Tab} (R : fb_rep ls rm ra rc t T) (ht : t < 4) (hpe : fb_pok pe) :
    ∀ d k p h a, k + d = 16 → p < 20 → h < 64 → ∀ o1 o2 : Int32, (∀ o1 o2 : Int32, post (fb_fate T pe d p h) (fB, o1, o2, nI (fb_seen T pe d p h a), pe, ls, rm, ra, rc, st, pl, hd, tY, tr)) → ∀ n, d < n →
    wY_follow_32 post (nI t) n (nI p) (nI h) (nI k) fB o1 o2 (nI a) pe ls rm ra rc st pl hd tY tr := by
  intro d
  induction d with
  | zero =>
    intro k p h a hk hp20 hh o1 o2 hp n hn
    obtain ⟨m, rfl⟩ : ∃ m, n = m + 1 := ⟨n - 1, by omega⟩
    exact br_t (nI_le (a := 16) (by omega) (by omega)) (hp o1 o2)
  | succ d ih =>
    intro k p h a hk hp20 hh o1 o2 hp n hn
    obtain ⟨m, rfl⟩ : ∃ m, n = m + 1 := ⟨n - 1, by omega⟩
    have h6 := (R (p / 4) (by omega)).1
    have es : nI a ||| ((1 : Int32) <<< ((nI p / 4) &&& 31)) = nI (a ||| 2 ^ (p / 4)) := by
      rw [show nI p / 4 = nI (p / 4) from pk_div (d := 4) (by omega) (by omega) (by omega), fb_sh1 (p / 4) (by omega), fb_or]
    refine br_f (nI_ge (b := 16) (by omega) (by omega)) ⟨by decide, nm_r es (fy_treat t p h rfl rfl rfl (but := none) R ht hp20 hh (fb_but0 (by omega)) ?_)⟩
    cases hg : fb_go T p h none with
    | none =>
      rw [fb_fate_n hg, fb_seen_n hg] at hp
      exact br_f (c := 0 ≤ fb_o1 none) (by decide) (hp _ _)
    | some x =>
      obtain ⟨ho, hh'⟩ := fb_go_lt (fb_rep_ok R) hp20 hh hg
      refine br_t (c := 0 ≤ fb_o1 (some x)) (nI_pos' (by omega)) ⟨vp_in_nI ho (by omega), ?_⟩
      have hcl : (fb_o1 (some x)).toNatClampNeg = x.1 := nI_clamp (by omega)
      rw [hcl]
      by_cases hno : pe x.1 = -1
      · rw [fb_fate_d hg hno, fb_seen_d hg hno] at hp
        refine br_f (by rw [hno]; decide) ?_
        rw [show (100 : Int32) + fb_o1 (some x) = nI (100 + x.1) from nI_add 100 x.1]
        exact hp _ _
      · obtain ⟨b, hb, eb⟩ := fb_pe_on hpe ho hno
        rw [fb_fate_g hg hno hb eb, fb_seen_g hg hno hb eb] at hp
        exact br_t (by rw [eb]; exact nI_pos' (by omega)) ⟨vp_in_nI ho (by omega), nm_r eb (nm_r (nI_1 k) (ih (k + 1) b x.2 (a ||| 2 ^ (p / 4)) (by omega) hb hh' _ _ hp m (by omega)))⟩
theorem fy_follow {post : Int32 → SY → Prop} {f t h : Nat} {T : fb_Tab} (R : fb_rep ls rm ra rc t T) (ht : t < 4) (hpe : fb_pok pe) (hf : f < 40) (hh : h < 64) (e : (f < 20 ∧ fB = nI t) ∨ (20 ≤ f ∧ t = 0))
    (hp : ∀ o1 o2 : Int32, post (fb_fate T pe 16 (f % 20) h) (fB, o1, o2, nI (fb_seen T pe 16 (f % 20) h 0), pe, ls, rm, ra, rc, st, pl, hd, tY, tr)) : wpY_follow post (fB, oP, oH, sn, pe, ls, rm, ra, rc, st, pl, hd, tY, tr) (nI f) (nI h) := by
  unfold wpY_follow
  rcases e with ⟨h1, h2⟩ | ⟨h1, h2⟩
  · refine br_f (nI_ge (b := 20) (by omega) (by omega)) ⟨by decide, nm_r (pk_rem (d := 20) (by omega) (by omega) (by omega)) ⟨17, ?_⟩⟩
    subst h2
    exact fy_f32 R ht hpe 16 0 (f % 20) h 0 rfl (by omega) hh oP oH hp 17 (by omega)
  · refine br_t (nI_le (a := 20) (by omega) (by omega)) ⟨by decide, nm_r (pk_rem (d := 20) (by omega) (by omega) (by omega)) ⟨17, ?_⟩⟩
    subst h2
    exact fy_f32 R ht hpe 16 0 (f % 20) h 0 rfl (by omega) hh oP oH hp 17 (by omega)
end
/-- what a following asks, of every state that differs in the marks alone -/
def fy_FQ (fB : Int32) (pe ls rm ra rc st pl hd tY tr : Nat → Int32) (x : Int32) (F : Nat → Int32) (S : Nat → Nat) : Prop :=
  ∀ h, h < 64 → ∀ (P : Int32 → SY → Prop) (oP oH sn : Int32), (∀ o1 o2 : Int32, P (F h) (fB, o1, o2, nI (S h), pe, ls, rm, ra, rc, st, pl, hd, tY, tr)) → wpY_follow P (fB, oP, oH, sn, pe, ls, rm, ra, rc, st, pl, hd, tY, tr) x (nI h)
section
variable {fB oP oH sn : Int32} {pe ls rm ra rc st pl hd tY tr : Nat → Int32}
theorem fy_c5 {post : Int32 → SY → Prop} {x w : Int32} {F : Nat → Int32} {S : Nat → Nat} (hF : fy_FQ fB pe ls rm ra rc st pl hd tY tr x F S) (hp : ∀ oP oH sn : Int32, post (nI (fb_cnt (fun h => decide (F h = w)) 64)) (fB, oP, oH, sn, pe, ls, rm, ra, rc, st, pl, hd, tY, tr)) :
    ∀ d k, k + d = 64 → ∀ oP oH sn : Int32, ∀ n, d < n → wY_count_5 post x w n (nI (fb_cnt (fun h => decide (F h = w)) k)) (nI k) fB oP oH sn pe ls rm ra rc st pl hd tY tr := by
  intro d
  induction d with
  | zero =>
    intro k hk oP oH sn n hn
    obtain ⟨m, rfl⟩ : ∃ m, n = m + 1 := ⟨n - 1, by omega⟩
    obtain rfl : k = 64 := hk
    exact br_t (nI_le (a := 64) (by omega) (by omega)) (hp oP oH sn)
  | succ d ih =>
    intro k hk oP oH sn n hn
    obtain ⟨m, rfl⟩ : ∃ m, n = m + 1 := ⟨n - 1, by omega⟩
    refine br_f (nI_ge (b := 64) (by omega) (by omega)) (hF k (by omega) _ oP oH sn (fun o1 o2 => ?_))
    have r := ih (k + 1) (by omega) o1 o2 (nI (S k)) m (by omega)
    by_cases e : F k = w
    · rw [fb_cnt_t (decide_eq_true e)] at r
      exact br_t e (nm_r (nI_1 _) (nm_r (nI_1 k) r))
    · rw [fb_cnt_f (fun z => e (of_decide_eq_true z))] at r
      exact br_f e (nm_r (nI_1 k) r)
theorem fy_cnt {post : Int32 → SY → Prop} {x w : Int32} {F : Nat → Int32} {S : Nat → Nat} (hF : fy_FQ fB pe ls rm ra rc st pl hd tY tr x F S) (hp : ∀ oP oH sn : Int32, post (nI (fb_cnt (fun h => decide (F h = w)) 64)) (fB, oP, oH, sn, pe, ls, rm, ra, rc, st, pl, hd, tY, tr)) :
    wpY_count post (fB, oP, oH, sn, pe, ls, rm, ra, rc, st, pl, hd, tY, tr) x w := by
  unfold wpY_count
  exact ⟨65, fy_c5 hF hp 64 0 rfl oP oH sn 65 (by omega)⟩
theorem fy_na {post : Int32 → SY → Prop} {x y z : Int32} {F : Nat → Int32} {S : Nat → Nat} (hF : fy_FQ fB pe ls rm ra rc st pl hd tY tr x F S) :
    ∀ d k, k + d = 64 → (∀ oP oH sn : Int32, post (fb_oi (-2) (fb_find (fun h => decide (¬ nI h ≤ z ∧ F h = 100 + y)) d k)) (fB, oP, oH, sn, pe, ls, rm, ra, rc, st, pl, hd, tY, tr)) → ∀ oP oH sn : Int32, ∀ n, d < n → wY_nextArriving_21 post x y z n (nI k) fB oP oH sn pe ls rm ra rc st pl hd tY tr := by
  intro d
  induction d with
  | zero =>
    intro k hk hp oP oH sn n hn
    obtain ⟨m, rfl⟩ : ∃ m, n = m + 1 := ⟨n - 1, by omega⟩
    exact br_t (nI_le (a := 64) (by omega) (by omega)) (hp oP oH sn)
  | succ d ih =>
    intro k hk hp oP oH sn n hn
    obtain ⟨m, rfl⟩ : ∃ m, n = m + 1 := ⟨n - 1, by omega⟩
    refine br_f (nI_ge (b := 64) (by omega) (by omega)) ?_
    by_cases hz : nI k ≤ z
    · rw [fb_find_f (fun q => (of_decide_eq_true q).1 hz)] at hp
      exact br_t hz (nm_r (nI_1 k) (ih (k + 1) (by omega) hp oP oH sn m (by omega)))
    · refine br_f hz (hF k (by omega) _ oP oH sn (fun o1 o2 => ?_))
      by_cases e : F k = 100 + y
      · rw [fb_find_t (decide_eq_true ⟨hz, e⟩)] at hp
        exact br_t e (hp _ _ _)
      · rw [fb_find_f (fun q => e (of_decide_eq_true q).2)] at hp
        exact br_f e (nm_r (nI_1 k) (ih (k + 1) (by omega) hp o1 o2 (nI (S k)) m (by omega)))
theorem fy_vi {post : Int32 → SY → Prop} {x : Int32} {s : Nat} {F : Nat → Int32} {S : Nat → Nat} {G : Nat → Bool} (hs : s < 5) (hF : fy_FQ fB pe ls rm ra rc st pl hd tY tr x F S)
    (hG : ∀ h, h < 64 → S h < 32 ∧ (S h).testBit s = G h) (hp : ∀ oP oH sn : Int32, post (nI (fb_cnt G 64)) (fB, oP, oH, sn, pe, ls, rm, ra, rc, st, pl, hd, tY, tr)) :
    ∀ d k, k + d = 64 → ∀ oP oH sn : Int32, ∀ n, d < n → wY_visiting_24 post x (nI s) n (nI (fb_cnt G k)) (nI k) fB oP oH sn pe ls rm ra rc st pl hd tY tr := by
  intro d
  induction d with
  | zero =>
    intro k hk oP oH sn n hn
    obtain ⟨m, rfl⟩ : ∃ m, n = m + 1 := ⟨n - 1, by omega⟩
    obtain rfl : k = 64 := hk
    exact br_t (nI_le (a := 64) (by omega) (by omega)) (hp oP oH sn)
  | succ d ih =>
    intro k hk oP oH sn n hn
    obtain ⟨m, rfl⟩ : ∃ m, n = m + 1 := ⟨n - 1, by omega⟩
    refine br_f (nI_ge (b := 64) (by omega) (by omega)) (hF k (by omega) _ oP oH sn (fun o1 o2 => ?_))
    have r := ih (k + 1) (by omega) o1 o2 (nI (S k)) m (by omega)
    obtain ⟨g1, g2⟩ := hG k (by omega)
    have hb := fb_sbit (S k) g1 s hs
    rw [g2] at hb
    by_cases e : G k = true
    · rw [fb_cnt_t e] at r
      exact br_t (hb.mpr e) (nm_r (nI_1 _) (nm_r (nI_1 k) r))
    · rw [fb_cnt_f e] at r
      exact br_f (fun z => e (hb.mp z)) (nm_r (nI_1 k) r)
theorem fy_di {post : Int32 → SY → Prop} {x : Int32} {F G : Nat → Int32} {S S' : Nat → Nat} (hF : fy_FQ fB pe ls rm ra rc st pl hd tY tr x F S) (hG : fy_FQ fB pe ls rm ra rc st pl hd tY tr (x + 20) G S')
    (hp : ∀ oP oH sn : Int32, post (nI (fb_cnt (fun h => decide (¬ F h = G h)) 64)) (fB, oP, oH, sn, pe, ls, rm, ra, rc, st, pl, hd, tY, tr)) :
    ∀ d k, k + d = 64 → ∀ oP oH sn : Int32, ∀ n, d < n → wY_differing_14 post x n (nI (fb_cnt (fun h => decide (¬ F h = G h)) k)) (nI k) fB oP oH sn pe ls rm ra rc st pl hd tY tr := by
  intro d
  induction d with
  | zero =>
    intro k hk oP oH sn n hn
    obtain ⟨m, rfl⟩ : ∃ m, n = m + 1 := ⟨n - 1, by omega⟩
    obtain rfl : k = 64 := hk
    exact br_t (nI_le (a := 64) (by omega) (by omega)) (hp oP oH sn)
  | succ d ih =>
    intro k hk oP oH sn n hn
    obtain ⟨m, rfl⟩ : ∃ m, n = m + 1 := ⟨n - 1, by omega⟩
    refine br_f (nI_ge (b := 64) (by omega) (by omega)) (hF k (by omega) _ oP oH sn (fun o1 o2 => hG k (by omega) _ o1 o2 (nI (S k)) (fun o3 o4 => ?_)))
    have r := ih (k + 1) (by omega) o3 o4 (nI (S' k)) m (by omega)
    by_cases e : F k = G k
    · rw [fb_cnt_f (fun z => (of_decide_eq_true z) e)] at r
      exact br_t e (nm_r (nI_1 k) r)
    · rw [fb_cnt_t (decide_eq_true e)] at r
      exact br_f e (nm_r (nI_1 _) (nm_r (nI_1 k) r))
theorem fy_dg {post : Int32 → Prop} {s i : Nat} {T : fb_Tab} (R : fb_rep ls rm ra rc 0 T) (hs : s < 5) (hi : i < T.1 s) (hp : post (nI (fb_cnt (fun h => decide (fb_first T s h none = some i)) 64))) :
    ∀ d k, k + d = 64 → ∀ n, d < n → wY_deciding_16 post (nI s) (nI i) fB oP oH sn pe ls rm ra rc st pl hd tY tr n (nI (fb_cnt (fun h => decide (fb_first T s h none = some i)) k)) (nI k) := by
  have h6 := (R s hs).1
  have e6 : (6 : Int32) * nI s + nI i = nI (6 * s + i) := by rw [show (6 : Int32) = nI 6 from rfl, pk_mul, nI_add]
  intro d
  induction d with
  | zero =>
    intro k hk n hn
    obtain ⟨m, rfl⟩ : ∃ m, n = m + 1 := ⟨n - 1, by omega⟩
    obtain rfl : k = 64 := hk
    exact br_t (nI_le (a := 64) (by omega) (by omega)) hp
  | succ d ih =>
    intro k hk n hn
    obtain ⟨m, rfl⟩ : ∃ m, n = m + 1 := ⟨n - 1, by omega⟩
    have r := ih (k + 1) (by omega) m (by omega)
    refine br_f (nI_ge (b := 64) (by omega) (by omega)) (fy_rf 0 s k rfl rfl rfl (but := none) R (by omega) hs (fb_but0 (by omega)) (fun hf => ?_) (fun j hj hf => ?_))
    · have hne : ¬ decide (fb_first T s k none = some i) = true := by
        intro z
        have z2 := of_decide_eq_true z
        rw [hf] at z2
        cases z2
      rw [fb_cnt_f hne] at r
      rw [e6]
      exact br_f (fun z => fw_m1 (by omega) z.symm) (nm_r (nI_1 k) r)
    · rw [e6]
      by_cases e : j = i
      · subst e
        rw [fb_cnt_t (decide_eq_true hf)] at r
        exact br_t (congrArg nI (by omega)) (nm_r (nI_1 _) (nm_r (nI_1 k) r))
      · rw [fb_cnt_f (fun z => e (Option.some.inj (hf.symm.trans (of_decide_eq_true z))))] at r
        refine br_f (fun z => e ?_) (nm_r (nI_1 k) r)
        have := (nI_eq (by omega) (by omega)).mp z
        omega
theorem fb_o12 {h : Nat} {a b : Option (Nat × Nat)} (ha : ∀ x, a = some x → x.1 < 20 ∧ x.2 < 64) (hb : ∀ x, b = some x → x.1 < 20 ∧ x.2 < 64) : (fb_o1 b = fb_o1 a ∧ fb_o2 h b = fb_o2 h a) ↔ a = b := by
  refine ⟨fun e => ?_, fun e => by rw [e]; exact ⟨rfl, rfl⟩⟩
  obtain ⟨e1, e2⟩ := e
  cases a with
  | none =>
    cases b with
    | none => rfl
    | some y =>
      have := hb y rfl
      exact absurd e1 (fw_m1 (by omega))
  | some x =>
    have hx := ha x rfl
    cases b with
    | none => exact absurd e1.symm (fw_m1 (by omega))
    | some y =>
      have hy := hb y rfl
      have e3 : y.1 = x.1 := (nI_eq (by omega) (by omega)).mp e1
      have e4 : y.2 = x.2 := (nI_eq (by omega) (by omega)).mp e2
      exact congrArg some (Prod.ext e3.symm e4.symm)
theorem fy_nl {post : Int32 → SY → Prop} {s i : Nat} {T : fb_Tab} (R : fb_rep ls rm ra rc 0 T) (hs : s < 5) (hi : i < T.1 s) :
    ∀ d c, c + d = 256 → ((∃ j, c ≤ j ∧ j < 256 ∧ ¬ fb_nd T s i j) → ∀ oP oH : Int32, post 0 (fB, oP, oH, sn, pe, ls, rm, ra, rc, st, pl, hd, tY, tr)) → ((∀ j, c ≤ j → j < 256 → fb_nd T s i j) → ∀ oP oH : Int32, post 1 (fB, oP, oH, sn, pe, ls, rm, ra, rc, st, pl, hd, tY, tr)) →
    ∀ oP oH : Int32, ∀ n, d < n → wY_needless_13 post (nI s) (nI i) n (nI c) fB oP oH sn pe ls rm ra rc st pl hd tY tr := by
  have h6 := (R s hs).1
  have e6 : (6 : Int32) * nI s + nI i = nI (6 * s + i) := by rw [show (6 : Int32) = nI 6 from rfl, pk_mul, nI_add]
  intro d
  induction d with
  | zero =>
    intro c hc h0 h1 oP oH n hn
    obtain ⟨m, rfl⟩ : ∃ m, n = m + 1 := ⟨n - 1, by omega⟩
    exact br_t (nI_le (a := 256) (by omega) (by omega)) (h1 (fun j h2 h3 => absurd h2 (by omega)) oP oH)
  | succ d ih =>
    intro c hc h0 h1 oP oH n hn
    obtain ⟨m, rfl⟩ : ∃ m, n = m + 1 := ⟨n - 1, by omega⟩
    have q : (4 * s + c / 64) / 4 = s := by omega
    have b0 : fb_butI (6 * (5 * 0 + (4 * s + c / 64) / 4)) (T.1 ((4 * s + c / 64) / 4)) none (-1) := by
      rw [q]
      exact fb_but0 (by omega)
    have b1 : fb_butI (6 * (5 * 0 + (4 * s + c / 64) / 4)) (T.1 ((4 * s + c / 64) / 4)) (some i) (6 * nI s + nI i) := by
      rw [q, e6, show 6 * s + i = 6 * (5 * 0 + s) + i by omega]
      exact fb_but1 (by omega) hi
    have e4 : (4 : Int32) * nI s + nI c / 64 = nI (4 * s + c / 64) := by
      rw [show nI c / 64 = nI (c / 64) from pk_div (d := 64) (by omega) (by omega) (by omega), show (4 : Int32) = nI 4 from rfl, pk_mul, nI_add]
    have er : nI c - nI c / 64 * 64 = nI (c % 64) := pk_rem (d := 64) (by omega) (by omega) (by omega)
    have ok := fb_rep_ok R
    have ei := fb_o12 (h := c % 64) (a := fb_go T (4 * s + c / 64) (c % 64) none) (b := fb_go T (4 * s + c / 64) (c % 64) (some i)) (fun x hx => fb_go_lt ok (by omega) (by omega) hx) (fun x hx => fb_go_lt ok (by omega) (by omega) hx)
    refine br_f (nI_ge (b := 256) (by omega) (by omega)) ⟨by decide, nm_r e4 ⟨by decide, fy_treat 0 (4 * s + c / 64) (c % 64) rfl rfl er R (by omega) (by omega) (by omega) b0 ⟨by decide, fy_treat 0 (4 * s + c / 64) (c % 64) rfl rfl er R (by omega) (by omega) (by omega) b1 ?_⟩⟩⟩
    by_cases e : fb_nd T s i c
    · have e2 := ei.mpr e
      refine br_t e2.1 (br_t e2.2 (nm_r (nI_1 c) (ih (c + 1) (by omega) (fun ⟨j, a, b, z⟩ => h0 ⟨j, by omega, b, z⟩) (fun h2 => h1 (fun j h3 h4 => ?_)) _ _ m (by omega))))
      by_cases ej : j = c
      · rw [ej]; exact e
      · exact h2 j (by omega) h4
    · have hz := h0 ⟨c, Nat.le_refl _, by omega, e⟩
      exact br_c (fun a => br_c (fun b => absurd (ei.mp ⟨a, b⟩) e) (fun _ => hz _ _)) (fun _ => hz _ _)
end
end
section
/-! Y's walks: scans over packets and tables; a tick; the start -/
theorem fb_find_min {f : Nat → Bool} : ∀ {d i j : Nat}, fb_find f d i = some j → ∀ k, i ≤ k → k < j → f k = false := by
  intro d
  induction d with
  | zero => intro i j h; cases h
  | succ d ih =>
    intro i j h k h1 h2
    by_cases hf : f i = true
    · rw [fb_find_t hf] at h
      cases h
      omega
    · rw [fb_find_f hf] at h
      by_cases e : k = i
      · rw [e]; exact Bool.eq_false_iff.mpr hf
      · exact ih h k (by omega) h2
theorem fb_cnt_all {f : Nat → Bool} : ∀ {n : Nat}, (∀ j, j < n → f j = true) → fb_cnt f n = n := by
  intro n
  induction n with
  | zero => intro _; rfl
  | succ n ih =>
    intro h
    rw [fb_cnt_t (h n (by omega)), ih (fun j hj => h j (by omega))]
theorem fb_cnt_lt {f : Nat → Bool} : ∀ {n j : Nat}, j < n → ¬ f j = true → fb_cnt f n < n := by
  intro n
  induction n with
  | zero => intro j h; omega
  | succ n ih =>
    intro j hj hf
    by_cases e : j = n
    · subst e
      rw [fb_cnt_f hf]
      have := fb_cnt_le f j
      omega
    · have r := ih (j := j) (by omega) hf
      by_cases h : f n = true
      · rw [fb_cnt_t h]; omega
      · rw [fb_cnt_f h]; omega
section
variable {fB oP oH sn : Int32} {pe ls rm ra rc st pl hd tY tr tX : Nat → Int32}
theorem fy_us2 {post : Int32 → Prop} {x : Int32} : ∀ d k, k + d = 8 → ((fb_find (fun k => decide (st k = 1 ∧ tY k = x)) d k).isSome = true → post 1) → ((fb_find (fun k => decide (st k = 1 ∧ tY k = x)) d k).isSome = false → post 0) →
    ∀ n, d < n → wY_isUsed_2 post x fB oP oH sn pe ls rm ra rc st pl hd tY tr n (nI k) := by
  intro d
  induction d with
  | zero =>
    intro k hk h1 h0 n hn
    obtain ⟨m, rfl⟩ : ∃ m, n = m + 1 := ⟨n - 1, by omega⟩
    exact br_t (nI_le (a := 8) (by omega) (by omega)) (h0 rfl)
  | succ d ih =>
    intro k hk h1 h0 n hn
    obtain ⟨m, rfl⟩ : ∃ m, n = m + 1 := ⟨n - 1, by omega⟩
    have hv : vp_in (nI k) 8 := vp_in_nI (by omega) (by omega)
    have hc : (nI k).toNatClampNeg = k := nI_clamp (by omega)
    refine br_f (nI_ge (b := 8) (by omega) (by omega)) ⟨hv, ?_⟩
    rw [hc]
    by_cases hs : st k = 1
    · refine br_t hs ⟨hv, ?_⟩
      by_cases ht : tY k = x
      · exact br_t ht (h1 (by rw [fb_find_t (decide_eq_true ⟨hs, ht⟩)]; rfl))
      · have hf : ¬ decide (st k = 1 ∧ tY k = x) = true := fun z => ht (of_decide_eq_true z).2
        rw [fb_find_f hf] at h1 h0
        exact br_f ht (nm_r (nI_1 k) (ih (k + 1) (by omega) h1 h0 m (by omega)))
    · have hf : ¬ decide (st k = 1 ∧ tY k = x) = true := fun z => hs (of_decide_eq_true z).1
      rw [fb_find_f hf] at h1 h0
      exact br_f hs (nm_r (nI_1 k) (ih (k + 1) (by omega) h1 h0 m (by omega)))
theorem fy_us {post : Int32 → Prop} {x : Int32} (h1 : fb_usR st tY x = true → post 1) (h0 : fb_usR st tY x = false → post 0) : wpY_isUsed post (fB, oP, oH, sn, pe, ls, rm, ra, rc, st, pl, hd, tY, tr) x := by
  unfold wpY_isUsed
  exact ⟨9, fy_us2 8 0 rfl h1 h0 9 (by omega)⟩
theorem fy_p73 {post : Int32 → SY → Prop} {y : Nat} (hy : y < 4) (eB : fB = nI y) (f : Nat → Bool) (ef : ∀ t, f t = (decide (t + 1 = y) || fb_usR st tY (nI (t + 1)))) (hp : post (nI (fb_cnt f 3)) (fB, oP, oH, sn, pe, ls, rm, ra, rc, st, pl, hd, tY, tr)) :
    ∀ d k, k + d = 3 → ∀ n, d < n → wY_publish_73 post fB oP oH sn pe ls rm ra rc st pl hd tY tr n (nI (fb_cnt f k)) (nI (k + 1)) := by
  intro d
  induction d with
  | zero =>
    intro k hk n hn
    obtain ⟨m, rfl⟩ : ∃ m, n = m + 1 := ⟨n - 1, by omega⟩
    obtain rfl : k = 3 := hk
    exact br_t (nI_le (a := 4) (by omega) (by omega)) hp
  | succ d ih =>
    intro k hk n hn
    obtain ⟨m, rfl⟩ : ∃ m, n = m + 1 := ⟨n - 1, by omega⟩
    have r := ih (k + 1) (by omega) m (by omega)
    have efk := ef k
    refine br_f (nI_ge (b := 4) (by omega) (by omega)) ?_
    by_cases e : k + 1 = y
    · rw [fb_cnt_t (by rw [efk, decide_eq_true e]; rfl)] at r
      exact br_t (by rw [eB, e]) (nm_r (nI_1 _) (nm_r (nI_1 _) r))
    · rw [decide_eq_false e, Bool.false_or] at efk
      refine br_f (fun z => e ((nI_eq (by omega) (by omega)).mp (z.trans eB))) (fy_us (fun u => ?_) (fun u => ?_))
      · rw [fb_cnt_t (efk.trans u)] at r
        exact br_f (by decide) (nm_r (nI_1 _) (nm_r (nI_1 _) r))
      · rw [fb_cnt_f (by rw [efk, u]; decide)] at r
        exact br_t rfl (nm_r (nI_1 _) r)
theorem fy_p22 {post : Int32 → SY → Prop} {ay : Nat} {w : Nat → Bool} (ew : ∀ t, w t = fb_usR st tY (nI t)) (h1 : 1 ≤ ay) (h3 : ay ≤ 3) (eB : fB = nI ay) (hn : fb_pyl ay w 3 = 0 → post (-4) (fB, oP, oH, sn, pe, ls, rm, ra, rc, st, pl, hd, tY, tr))
    (hp : ∀ y, fb_pyl ay w 3 = y → 1 ≤ y → y ≤ 3 → post (nI (fb_cnt (fun t => decide (t + 1 = y) || w (t + 1)) 3)) (nI y, oP, oH, sn, pe, fb_cp (5 * 0) (5 * y) ls 5, fb_cp (30 * 0) (30 * y) rm 30, fb_cp (30 * 0) (30 * y) ra 30, fb_cp (30 * 0) (30 * y) rc 30, st, pl, hd, tY, tr)) :
    ∀ d k, k + d = 3 → ∀ n, d < n → wY_publish_22 post fB oP oH sn pe ls rm ra rc st pl hd tY tr n (nI (fb_pyl ay w k)) (nI (k + 1)) := by
  intro d
  induction d with
  | zero =>
    intro k hk n hn'
    obtain ⟨m, rfl⟩ : ∃ m, n = m + 1 := ⟨n - 1, by omega⟩
    obtain rfl : k = 3 := hk
    refine br_t (nI_le (a := 4) (by omega) (by omega)) ?_
    rcases fb_pyl_c (w := w) h1 h3 3 (by omega) with r | ⟨r1, r3, _⟩
    · exact br_t (by rw [r.1]; rfl) (hn r.1)
    · refine br_f (nI_ne0 (by omega) (by omega)) (fy_ct 0 (fb_pyl ay w 3) rfl rfl (by omega) (by omega) (by omega) ⟨4, ?_⟩)
      exact fy_p73 (by omega) rfl _ (fun t => by rw [ew]) (hp _ rfl r1 r3) 3 0 rfl 4 (by omega)
  | succ d ih =>
    intro k hk n hn'
    obtain ⟨m, rfl⟩ : ∃ m, n = m + 1 := ⟨n - 1, by omega⟩
    have r := ih (k + 1) (by omega) m (by omega)
    refine br_f (nI_ge (b := 4) (by omega) (by omega)) ?_
    by_cases e : k + 1 = ay
    · rw [fb_pyl, if_neg (fun z => z.1 e)] at r
      exact br_t (by rw [eB, e]) (nm_r (nI_1 _) r)
    · refine br_f (fun z => e ((nI_eq (by omega) (by omega)).mp (z.trans eB))) (fy_us (fun u => ?_) (fun u => ?_))
      · rw [← ew] at u
        rw [fb_pyl, if_neg (fun z => by rw [u] at z; cases z.2)] at r
        exact br_f (by decide) (nm_r (nI_1 _) r)
      · rw [← ew] at u
        rw [fb_pyl, if_pos ⟨e, u⟩] at r
        exact br_t rfl (nm_r (nI_1 _) r)
theorem fy_publish {post : Int32 → SY → Prop} {ay : Nat} {w : Nat → Bool} (ew : ∀ t, w t = fb_usR st tY (nI t)) (h1 : 1 ≤ ay) (h3 : ay ≤ 3) (eB : fB = nI ay) (hn : fb_pyl ay w 3 = 0 → post (-4) (fB, oP, oH, sn, pe, ls, rm, ra, rc, st, pl, hd, tY, tr))
    (hp : ∀ y, fb_pyl ay w 3 = y → 1 ≤ y → y ≤ 3 → post (nI (fb_cnt (fun t => decide (t + 1 = y) || w (t + 1)) 3)) (nI y, oP, oH, sn, pe, fb_cp (5 * 0) (5 * y) ls 5, fb_cp (30 * 0) (30 * y) rm 30, fb_cp (30 * 0) (30 * y) ra 30, fb_cp (30 * 0) (30 * y) rc 30, st, pl, hd, tY, tr)) :
    wpY_publish post (fB, oP, oH, sn, pe, ls, rm, ra, rc, st, pl, hd, tY, tr) := by
  have r := fy_p22 ew h1 h3 eB hn hp 3 0 rfl 4 (by omega)
  unfold wpY_publish
  refine fy_us (fun u => ?_) (fun u => ?_)
  · rw [eB, ← ew] at u
    rw [fb_pyl, if_pos u] at r
    exact br_f (by decide) ⟨_, r⟩
  · rw [eB, ← ew] at u
    rw [fb_pyl, if_neg (by rw [u]; decide), ← eB] at r
    exact br_t rfl ⟨_, r⟩
theorem fy_if4 {post : Int32 → Prop} (hp : post (nI (fb_cnt (fun k => decide (st k = 1)) 8))) : ∀ d k, k + d = 8 → ∀ n, d < n → wY_inFlight_4 post fB oP oH sn pe ls rm ra rc st pl hd tY tr n (nI (fb_cnt (fun k => decide (st k = 1)) k)) (nI k) := by
  intro d
  induction d with
  | zero =>
    intro k hk n hn
    obtain ⟨m, rfl⟩ : ∃ m, n = m + 1 := ⟨n - 1, by omega⟩
    obtain rfl : k = 8 := hk
    exact br_t (nI_le (a := 8) (by omega) (by omega)) hp
  | succ d ih =>
    intro k hk n hn
    obtain ⟨m, rfl⟩ : ∃ m, n = m + 1 := ⟨n - 1, by omega⟩
    have r := ih (k + 1) (by omega) m (by omega)
    refine br_f (nI_ge (b := 8) (by omega) (by omega)) ⟨vp_in_nI (by omega) (by omega), ?_⟩
    rw [nI_clamp (by omega)]
    by_cases e : st k = 1
    · rw [fb_cnt_t (decide_eq_true e)] at r
      exact br_t e (nm_r (nI_1 _) (nm_r (nI_1 k) r))
    · rw [fb_cnt_f (fun z => e (of_decide_eq_true z))] at r
      exact br_f e (nm_r (nI_1 k) r)
theorem fy_if {post : Int32 → Prop} (hp : post (nI (fb_cnt (fun k => decide (st k = 1)) 8))) : wpY_inFlight post (fB, oP, oH, sn, pe, ls, rm, ra, rc, st, pl, hd, tY, tr) := by
  unfold wpY_inFlight
  exact ⟨9, fy_if4 hp 8 0 rfl 9 (by omega)⟩
theorem fy_s44 {post : Int32 → SY → Prop} {x y : Int32} {j : Nat} (hj : j < 8) (hst : ¬ st j = 1) (hlt : ∀ i, i < j → st i = 1)
    (hp : post (nI j) (fB, oP, oH, sn, pe, ls, rm, ra, rc, upd st j 1, upd pl j x, upd hd j y, upd tY j fB, upd tr j 0)) : ∀ d k, k + d = j → ∀ n, d < n → wY_send_44 post x y fB oP oH sn pe ls rm ra rc st pl hd tY tr n (nI k) := by
  intro d
  induction d with
  | zero =>
    intro k hk n hn
    obtain ⟨m, rfl⟩ : ∃ m, n = m + 1 := ⟨n - 1, by omega⟩
    obtain rfl : k = j := hk
    have hv : vp_in (nI k) 8 := vp_in_nI (by omega) (by omega)
    have hc : (nI k).toNatClampNeg = k := nI_clamp (by omega)
    refine And.intro hv ?_
    rw [hc]
    exact br_f hst ⟨hv, nm_e ⟨hv, nm_e ⟨hv, nm_e ⟨hv, nm_e ⟨hv, nm_e hp⟩⟩⟩⟩⟩
  | succ d ih =>
    intro k hk n hn
    obtain ⟨m, rfl⟩ : ∃ m, n = m + 1 := ⟨n - 1, by omega⟩
    have hv : vp_in (nI k) 8 := vp_in_nI (by omega) (by omega)
    have hc : (nI k).toNatClampNeg = k := nI_clamp (by omega)
    refine And.intro hv ?_
    rw [hc]
    exact br_t (hlt k (by omega)) (nm_r (nI_1 k) (ih (k + 1) (by omega) m (by omega)))
theorem fy_adv {post : SY → Prop} {τ : Nat → fb_Tab} {tt sg : Nat → Nat} {k p h m : Nat} (hk : k < 8) (hp20 : p < 20) (ep : pl k = nI p) (hh : h < 64) (eh : hd k = nI h) (hm : m < 16) (em : tr k = nI m) (ht : sg (tt k) < 4) (et : tY k = nI (sg (tt k)))
    (R : fb_rep ls rm ra rc (sg (tt k)) (τ (tt k))) (hpe : fb_pok pe) {Q : fb_Q} (eQ : Q = fb_pk τ pe tt k (st, pl, hd, tr)) (hp : ∀ oP oH : Int32, post (fB, oP, oH, sn, pe, ls, rm, ra, rc, Q.1, Q.2.1, Q.2.2.1, tY, Q.2.2.2)) : wpY_advance post (fB, oP, oH, sn, pe, ls, rm, ra, rc, st, pl, hd, tY, tr) (nI k) := by
  have hv : vp_in (nI k) 8 := vp_in_nI hk (by omega)
  have hc : (nI k).toNatClampNeg = k := nI_clamp (by omega)
  have c1 : (pl k).toNatClampNeg = p := by rw [ep, nI_clamp (by omega)]
  have c2 : (hd k).toNatClampNeg = h := by rw [eh, nI_clamp (by omega)]
  have eg : fb_go (τ (tt k)) (pl k).toNatClampNeg (hd k).toNatClampNeg none = fb_go (τ (tt k)) p h none := by rw [c1, c2]
  have h6 := (R (p / 4) (by omega)).1
  unfold wpY_advance
  rw [hc]
  refine ⟨hv, hv, hv, fy_treat (sg (tt k)) p h et ep eh (but := none) R ht hp20 hh (fb_but0 (by omega)) ⟨hv, hv, nm_e ?_⟩⟩
  cases hg : fb_go (τ (tt k)) p h none with
  | none =>
    rw [fb_pk_n (q := (st, pl, hd, tr)) (eg.trans hg)] at eQ
    subst eQ
    exact br_f (c := 0 ≤ fb_o1 none) (by decide) ⟨hv, nm_e (hp _ _)⟩
  | some x =>
    obtain ⟨ho, hh'⟩ := fb_go_lt (fb_rep_ok R) hp20 hh hg
    have hcl : (fb_o1 (some x)).toNatClampNeg = x.1 := nI_clamp (by omega)
    refine br_t (c := 0 ≤ fb_o1 (some x)) (nI_pos' (by omega)) ⟨hv, nm_e ⟨vp_in_nI ho (by omega), ?_⟩⟩
    rw [hcl]
    by_cases hno : pe x.1 = -1
    · rw [fb_pk_d (q := (st, pl, hd, tr)) (eg.trans hg) hno] at eQ
      subst eQ
      exact br_f (by rw [hno]; decide) ⟨hv, nm_e ⟨hv, nm_e (hp _ _)⟩⟩
    · obtain ⟨b, hb, eb⟩ := fb_pe_on hpe ho hno
      refine br_t (by rw [eb]; exact nI_pos' (by omega)) ⟨vp_in_nI ho (by omega), hv, nm_e ⟨hv, ?_⟩⟩
      rw [pk_us, em, nI_1]
      by_cases h15 : m = 15
      · have e15 : tr k = 15 := by rw [em, h15]; rfl
        rw [fb_pk_l (q := (st, pl, hd, tr)) (eg.trans hg) hno e15] at eQ
        subst eQ
        refine br_t (by rw [h15]; rfl) ⟨hv, nm_e ?_⟩
        dsimp only at hp
        rw [em, nI_1] at hp
        exact hp _ _
      · have e15 : ¬ tr k = 15 := fun z => h15 ((nI_eq (b := 15) (by omega) (by omega)).mp (em.symm.trans z))
        rw [fb_pk_g (q := (st, pl, hd, tr)) (eg.trans hg) hno e15] at eQ
        subst eQ
        refine br_f (fun z => h15 ?_) ?_
        · have := (nI_eq (b := 16) (by omega) (by omega)).mp z
          omega
        · dsimp only at hp
          rw [em, nI_1] at hp
          exact hp _ _
theorem fy_t2 {post : Int32 → SY → Prop} {τ : Nat → fb_Tab} {tt sg : Nat → Nat} {q : fb_Q} (hpe : fb_pok pe) (hR : ∀ k, k < 8 → q.1 k = 1 → sg (tt k) < 4 ∧ fb_rep ls rm ra rc (sg (tt k)) (τ (tt k)))
    (h : fb_pkok q.1 q.2.1 q.2.2.1 q.2.2.2 tX tY tt sg)
    (hp : ∀ oP oH : Int32, post (nI (fb_fl (fb_tk τ pe tt 8 q) 8)) (fB, oP, oH, sn, pe, ls, rm, ra, rc, (fb_tk τ pe tt 8 q).1, (fb_tk τ pe tt 8 q).2.1, (fb_tk τ pe tt 8 q).2.2.1, tY, (fb_tk τ pe tt 8 q).2.2.2)) :
    ∀ d k, k + d = 8 → ∀ oP oH : Int32, ∀ n, d < n → wY_tick_2 post n (nI k) fB oP oH sn pe ls rm ra rc ((fb_tk τ pe tt k q).1) ((fb_tk τ pe tt k q).2.1) ((fb_tk τ pe tt k q).2.2.1) tY ((fb_tk τ pe tt k q).2.2.2) := by
  intro d
  induction d with
  | zero =>
    intro k hk oP oH n hn
    obtain ⟨m, rfl⟩ : ∃ m, n = m + 1 := ⟨n - 1, by omega⟩
    obtain rfl : k = 8 := hk
    exact br_t (nI_le (a := 8) (by omega) (by omega)) (fy_if (hp oP oH))
  | succ d ih =>
    intro k hk oP oH n hn
    obtain ⟨m, rfl⟩ : ∃ m, n = m + 1 := ⟨n - 1, by omega⟩
    have hv : vp_in (nI k) 8 := vp_in_nI (by omega) (by omega)
    have hc : (nI k).toNatClampNeg = k := nI_clamp (by omega)
    have r := fun oP oH => ih (k + 1) (by omega) oP oH m (by omega)
    refine br_f (nI_ge (b := 8) (by omega) (by omega)) ⟨hv, ?_⟩
    rw [hc]
    obtain ⟨ok, hst⟩ := fb_tk_ok (τ := τ) hpe (fun j hj hj1 => fb_rep_ok (hR j hj hj1).2) h k (by omega)
    by_cases e : (fb_tk τ pe tt k q).1 k = 1
    · obtain ⟨⟨p, hp20, ep⟩, ⟨hh, hh64, eh⟩, ⟨mm, hm, em⟩, ht, _, et⟩ := ok k (by omega) e
      obtain ⟨ht4, R⟩ := hR k (by omega) (hst k e)
      exact br_t e (fy_adv (τ := τ) (tt := tt) (sg := sg) (by omega) hp20 ep hh64 eh hm em ht4 et R hpe (fb_tk_t e) (fun oP oH => nm_r (nI_1 k) (r oP oH)))
    · rw [fb_tk_f e] at r
      exact br_f e (nm_r (nI_1 k) (r oP oH))
theorem fy_tick {post : Int32 → SY → Prop} {τ : Nat → fb_Tab} {tt sg : Nat → Nat} (hpe : fb_pok pe) (hR : ∀ k, k < 8 → st k = 1 → sg (tt k) < 4 ∧ fb_rep ls rm ra rc (sg (tt k)) (τ (tt k)))
    (h : fb_pkok st pl hd tr tX tY tt sg) (Q : fb_Q) (eQ : fb_tk τ pe tt 8 (st, pl, hd, tr) = Q)
    (hp : ∀ oP oH : Int32, post (nI (fb_fl Q 8)) (fB, oP, oH, sn, pe, ls, rm, ra, rc, Q.1, Q.2.1, Q.2.2.1, tY, Q.2.2.2)) : wpY_tick post (fB, oP, oH, sn, pe, ls, rm, ra, rc, st, pl, hd, tY, tr) := by
  have r := fy_t2 (fB := fB) (sn := sn) (post := post) (q := (st, pl, hd, tr)) hpe hR h (by rw [eQ]; exact hp) 8 0 rfl oP oH 9 (by omega)
  unfold wpY_tick
  exact ⟨9, r⟩
theorem fy_i91 {post : SY → Prop} (hp : post (fB, oP, oH, sn, fb_li 20, ls, rm, ra, rc, st, pl, hd, tY, tr)) : ∀ d k, k + d = 20 → ∀ n, d < n → wY_init_91 post fB oP oH sn n (nI k) (fb_li k) ls rm ra rc st pl hd tY tr := by
  intro d
  induction d with
  | zero =>
    intro k hk n hn
    obtain ⟨m, rfl⟩ : ∃ m, n = m + 1 := ⟨n - 1, by omega⟩
    obtain rfl : k = 20 := hk
    exact br_t (nI_le (a := 20) (by omega) (by omega)) hp
  | succ d ih =>
    intro k hk n hn
    obtain ⟨m, rfl⟩ : ∃ m, n = m + 1 := ⟨n - 1, by omega⟩
    refine br_f (nI_ge (b := 20) (by omega) (by omega)) ⟨vp_in_nI (by omega) (by omega), ?_⟩
    rw [nI_clamp (by omega)]
    exact nm_r (fb_li_s k) (nm_r (nI_1 k) (ih (k + 1) (by omega) m (by omega)))
theorem fy_init {post : SY → Prop} (hp : post (1, 0, 0, 0, fb_li 20, fun _ => 0, fun _ => 0, fun _ => 0, fun _ => 0, fun _ => 0, fun _ => 0, fun _ => 0, fun _ => 0, fun _ => 0)) : wpY_init post := by
  unfold wpY_init
  have r := fy_i91 hp 20 0 rfl 21 (by omega)
  rw [fb_li_0] at r
  exact ⟨_, r⟩
end
end
section
/-! what is owed: the relation, the start, links, lists -/
def i_Rel (k : Nat) (u : SX) (v : SY) : Prop := ∃ (pe st pl hd tr ls rm ra rc tX ls' rm' ra' rc' tY : Nat → Int32) (ax : Nat) (sg tt : Nat → Nat) (τ : Nat → fb_Tab) (oP oH sn : Int32),
  u = (nI ax, pe, ls, rm, ra, rc, st, pl, hd, tX, tr) ∧ v = (nI (sg ax), oP, oH, sn, pe, ls', rm', ra', rc', st, pl, hd, tY, tr) ∧ fb_pok pe ∧ ax < 3 ∧ fb_perm sg ∧ fb_pkok st pl hd tr tX tY tt sg ∧ fb_tabs ls rm ra rc ls' rm' ra' rc' st ax sg tt τ
theorem i_up {k : Nat} {u : SX} {v : SY} (h : i_Rel k u v) : i_Rel (k + 5) u v := h
theorem fb_mk {k : Nat} {pe st pl hd tr ls rm ra rc tX ls' rm' ra' rc' tY : Nat → Int32} {ax : Nat} {sg tt : Nat → Nat} {τ : Nat → fb_Tab} {oP oH sn : Int32}
    (hpe : fb_pok pe) (hax : ax < 3) (hsg : fb_perm sg) (hpk : fb_pkok st pl hd tr tX tY tt sg) (htab : fb_tabs ls rm ra rc ls' rm' ra' rc' st ax sg tt τ) : i_Rel k (nI ax, pe, ls, rm, ra, rc, st, pl, hd, tX, tr) (nI (sg ax), oP, oH, sn, pe, ls', rm', ra', rc', st, pl, hd, tY, tr) :=
  ⟨pe, st, pl, hd, tr, ls, rm, ra, rc, tX, ls', rm', ra', rc', tY, ax, sg, tt, τ, oP, oH, sn, rfl, rfl, hpe, hax, hsg, hpk, htab⟩
theorem i_vc0 : wpX_init (fun u => wpY_init (fun v => i_Rel 0 u v)) := by
  refine fx_init (fy_init ?_)
  refine fb_mk (ax := 0) (sg := fun t => if t = 3 then 0 else t + 1) (tt := fun _ => 0) (τ := fun _ => (fun _ => 0, fun _ _ => 0, fun _ _ => 0, fun _ _ => 0)) fb_li_ok (by omega) ?_ ?_ ?_
  · refine ⟨rfl, ?_, ?_⟩
    · intro t ht
      dsimp only
      rw [if_neg (by omega)]
      omega
    · intro t t' ht ht' e
      dsimp only at e
      rw [if_neg (by omega), if_neg (by omega)] at e
      omega
  · intro k _ h
    exact absurd (show (0 : Int32) = 1 from h) (by decide)
  · intro t _
    have h : ∀ t, fb_rep (fun _ => 0) (fun _ => 0) (fun _ => 0) (fun _ => 0) t (fun _ => 0, fun _ _ => 0, fun _ _ => 0, fun _ _ => 0) := by
      intro t s _
      exact ⟨Nat.zero_le _, rfl, fun i hi => absurd hi (Nat.not_lt_zero i), fun i hi => absurd hi (Nat.not_lt_zero i), fun i hi => absurd hi (Nat.not_lt_zero i)⟩
    exact ⟨h _, h _⟩
theorem fb_0R {ls rm ra rc ls' rm' ra' rc' st : Nat → Int32} {ax : Nat} {sg tt : Nat → Nat} {τ : Nat → fb_Tab} (hsg : fb_perm sg) (htab : fb_tabs ls rm ra rc ls' rm' ra' rc' st ax sg tt τ) : fb_rep ls rm ra rc 3 (τ 3) ∧ fb_rep ls' rm' ra' rc' 0 (τ 3) := by
  have h := htab 3 (Or.inl rfl)
  rw [hsg.1] at h
  exact h
theorem fb_pok_l {pe : Nat → Int32} {a b : Nat} (h : fb_pok pe) (ha : a < 20) (hb : b < 20) : fb_pok (upd (upd pe a (nI b)) b (nI a)) := by
  intro c hc
  by_cases e1 : c = b
  · rw [e1, pk_us]
    exact Or.inr ⟨a, ha, rfl⟩
  · rw [pk_un e1]
    by_cases e2 : c = a
    · rw [e2, pk_us]
      exact Or.inr ⟨b, hb, rfl⟩
    · rw [pk_un e2]
      exact h c hc
theorem fb_pok_u {pe : Nat → Int32} {a b : Nat} (h : fb_pok pe) : fb_pok (upd (upd pe a (-1)) b (-1)) := by
  intro c hc
  by_cases e1 : c = b
  · rw [e1, pk_us]
    exact Or.inl rfl
  · rw [pk_un e1]
    by_cases e2 : c = a
    · rw [e2, pk_us]
      exact Or.inl rfl
    · rw [pk_un e2]
      exact h c hc
theorem fw_ix (x : Int32) {n : Nat} (hn : n < 2 ^ 31) : (x < 0 ∨ nI n ≤ x) ∨ ∃ j : Nat, j < n ∧ x = nI j := by
  rcases pk_ix x hn with h | h | h
  · exact Or.inl (Or.inl h)
  · exact Or.inl (Or.inr h)
  · exact Or.inr h
theorem fw_no {x : Int32} (h : x = -1) : ¬ 0 ≤ x ∧ x < 0 := by
  rw [h]
  decide
theorem i_vc_link {k : Nat} {u : SX} {v : SY} (I : i_Rel k u v) (hk : k + 5 ≤ 2560) (v1 : Int32) (v2 : Int32) : wpX_link (fun r u' => wpY_link (fun r' v' => r' = r ∧ i_Rel (k + 5) u' v') v v1 v2) u v1 v2 := by
  obtain ⟨pe, st, pl, hd, tr, ls, rm, ra, rc, tX, ls', rm', ra', rc', tY, ax, sg, tt, τ, oP, oH, sn, rfl, rfl, hpe, hax, hsg, hpk, htab⟩ := I
  have I' := fb_mk (k := k + 5) (oP := oP) (oH := oH) (sn := sn) hpe hax hsg hpk htab
  unfold wpX_link
  rcases fw_ix v1 (n := 20) (by omega) with h1 | ⟨a, ha, rfl⟩
  · refine fx_out (L := 20) h1 (br_t rfl ?_)
    unfold wpY_link
    exact fy_plb h1 (br_f (by decide) ⟨rfl, I'⟩)
  · refine fx_in (L := 20) ha (by omega) (br_f (by decide) ?_)
    rcases fw_ix v2 (n := 20) (by omega) with h2 | ⟨b, hb, rfl⟩
    · refine fx_out (L := 20) h2 (br_t rfl ?_)
      unfold wpY_link
      exact fy_pl ha (br_t rfl (fy_plb h2 (br_f (by decide) ⟨rfl, I'⟩)))
    · refine fx_in (L := 20) hb (by omega) (br_f (by decide) ?_)
      have hva : vp_in (nI a) 20 := vp_in_nI ha (by omega)
      have hvb : vp_in (nI b) 20 := vp_in_nI hb (by omega)
      have hca : (nI a).toNatClampNeg = a := nI_clamp (by omega)
      have hcb : (nI b).toNatClampNeg = b := nI_clamp (by omega)
      by_cases e : nI a = nI b
      · refine br_t e ?_
        unfold wpY_link
        exact fy_pl ha (br_t rfl (fy_pl hb (br_t rfl (br_t e ⟨rfl, I'⟩))))
      · refine br_f e ⟨hva, ?_⟩
        rw [hca, hcb]
        by_cases ea : pe a = -1
        · refine br_t ea ⟨hvb, ?_⟩
          by_cases eb : pe b = -1
          · refine br_t eb ⟨hva, nm_e ⟨hvb, nm_e ?_⟩⟩
            unfold wpY_link
            refine fy_pl ha (br_t rfl (fy_pl hb (br_t rfl (br_f e ⟨hva, ?_⟩))))
            rw [hca, hcb]
            exact br_f (fw_no ea).1 ⟨hvb, br_t (fw_no eb).2 ⟨hva, nm_e ⟨hvb, nm_e ⟨rfl, fb_mk (fb_pok_l hpe ha hb) hax hsg hpk htab⟩⟩⟩⟩
          · obtain ⟨c, hc, ec⟩ := fb_pe_on hpe hb eb
            refine br_f eb ?_
            unfold wpY_link
            refine fy_pl ha (br_t rfl (fy_pl hb (br_t rfl (br_f e ⟨hva, ?_⟩))))
            rw [hca, hcb]
            exact br_f (fw_no ea).1 ⟨hvb, br_f (by rw [ec]; exact nI_pos (by omega)) ⟨rfl, I'⟩⟩
        · obtain ⟨c, hc, ec⟩ := fb_pe_on hpe ha ea
          refine br_f ea ?_
          unfold wpY_link
          refine fy_pl ha (br_t rfl (fy_pl hb (br_t rfl (br_f e ⟨hva, ?_⟩))))
          rw [hca]
          exact br_t (by rw [ec]; exact nI_pos' (by omega)) ⟨rfl, I'⟩
theorem i_vc_unlink {k : Nat} {u : SX} {v : SY} (I : i_Rel k u v) (hk : k + 5 ≤ 2560) (v1 : Int32) : wpX_unlink (fun r u' => wpY_unlink (fun r' v' => r' = r ∧ i_Rel (k + 5) u' v') v v1) u v1 := by
  obtain ⟨pe, st, pl, hd, tr, ls, rm, ra, rc, tX, ls', rm', ra', rc', tY, ax, sg, tt, τ, oP, oH, sn, rfl, rfl, hpe, hax, hsg, hpk, htab⟩ := I
  have I' := fb_mk (k := k + 5) (oP := oP) (oH := oH) (sn := sn) hpe hax hsg hpk htab
  unfold wpX_unlink
  rcases fw_ix v1 (n := 20) (by omega) with h1 | ⟨a, ha, rfl⟩
  · refine fx_out (L := 20) h1 (br_t rfl ?_)
    unfold wpY_unlink
    exact fy_plb h1 (br_f (by decide) ⟨rfl, I'⟩)
  · have hva : vp_in (nI a) 20 := vp_in_nI ha (by omega)
    have hca : (nI a).toNatClampNeg = a := nI_clamp (by omega)
    refine fx_in (L := 20) ha (by omega) (br_f (by decide) ⟨hva, ?_⟩)
    rw [hca]
    by_cases ea : pe a = -1
    · refine nm_e (br_t ea ?_)
      unfold wpY_unlink
      refine fy_pl ha (br_t rfl ⟨hva, ?_⟩)
      rw [hca]
      exact nm_e (br_f (fw_no ea).1 ⟨rfl, I'⟩)
    · obtain ⟨c, hc, ec⟩ := fb_pe_on hpe ha ea
      have hvc : vp_in (nI c) 20 := vp_in_nI hc (by omega)
      refine nm_r ec (br_f (fw_m1 (by omega)) ⟨hva, nm_e ⟨hvc, nm_e ?_⟩⟩)
      unfold wpY_unlink
      refine fy_pl ha (br_t rfl ⟨hva, ?_⟩)
      rw [hca]
      exact nm_r ec (br_t (nI_pos' (by omega)) ⟨hva, nm_e ⟨hvc, nm_e ⟨rfl, fb_mk (fb_pok_u hpe) hax hsg hpk htab⟩⟩⟩)
theorem i_vc_linked {k : Nat} {u : SX} {v : SY} (I : i_Rel k u v) (hk : k + 5 ≤ 2560) (v1 : Int32) : wpX_linked (fun r => wpY_linked (fun r' => r' = r ∧ i_Rel (k + 5) u v) v v1) u v1 := by
  obtain ⟨pe, st, pl, hd, tr, ls, rm, ra, rc, tX, ls', rm', ra', rc', tY, ax, sg, tt, τ, oP, oH, sn, rfl, rfl, hpe, hax, hsg, hpk, htab⟩ := I
  have I' := fb_mk (k := k + 5) (oP := oP) (oH := oH) (sn := sn) hpe hax hsg hpk htab
  unfold wpX_linked
  rcases fw_ix v1 (n := 20) (by omega) with h1 | ⟨a, ha, rfl⟩
  · refine fx_out (L := 20) h1 (br_t rfl ?_)
    unfold wpY_linked
    exact fy_plb h1 (br_f (by decide) ⟨rfl, I'⟩)
  · have hva : vp_in (nI a) 20 := vp_in_nI ha (by omega)
    have hca : (nI a).toNatClampNeg = a := nI_clamp (by omega)
    refine fx_in (L := 20) ha (by omega) (br_f (by decide) ⟨hva, ?_⟩)
    rw [hca]
    by_cases ea : pe a = -1
    · refine br_t ea ?_
      unfold wpY_linked
      refine fy_pl ha (br_t rfl ⟨hva, ?_⟩)
      rw [hca]
      exact br_f (fw_no ea).1 ⟨rfl, I'⟩
    · obtain ⟨c, hc, ec⟩ := fb_pe_on hpe ha ea
      refine br_f ea ⟨hva, ?_⟩
      unfold wpY_linked
      refine fy_pl ha (br_t rfl ⟨hva, ?_⟩)
      rw [hca]
      exact br_t (by rw [ec]; exact nI_pos' (by omega)) ⟨hva, rfl, I'⟩
theorem fb_side {ls rm ra rc lsn rmn ran rcn : Nat → Int32} {t0 s n : Nat} {T : fb_Tab} {gm ga gc : Nat → Nat} (R : fb_rep ls rm ra rc t0 T) (hs5 : s < 5) (hn : n ≤ 6)
    (hs : lsn (5 * t0 + s) = nI n) (fl : ∀ q, q ≠ 5 * t0 + s → lsn q = ls q)
    (r1 : fb_row rmn (6 * (5 * t0 + s)) n gm 4096) (r2 : fb_row ran (6 * (5 * t0 + s)) n ga 6) (r3 : fb_row rcn (6 * (5 * t0 + s)) n gc 4096)
    (f1 : ∀ q, (q < 6 * (5 * t0 + s) ∨ 6 * (5 * t0 + s) + 6 ≤ q) → rmn q = rm q) (f2 : ∀ q, (q < 6 * (5 * t0 + s) ∨ 6 * (5 * t0 + s) + 6 ≤ q) → ran q = ra q)
    (f3 : ∀ q, (q < 6 * (5 * t0 + s) ∨ 6 * (5 * t0 + s) + 6 ≤ q) → rcn q = rc q) :
    fb_rep lsn rmn ran rcn t0 (fb_tset T s n gm ga gc) ∧ ∀ t T', t ≠ t0 → fb_rep ls rm ra rc t T' → fb_rep lsn rmn ran rcn t T' :=
  ⟨fb_rep_set R hn hs fl r1 r2 r3 f1 f2 f3, fun _ _ hne R' => fb_rep_setn R' hne hs5 fl f1 f2 f3⟩
theorem fb_kept_lt {st pl hd tr tX tY : Nat → Int32} {tt sg : Nat → Nat} {ax t : Nat} (hpk : fb_pkok st pl hd tr tX tY tt sg) (hax : ax < 3) (h : fb_kept st tt ax t) : t = 3 ∨ t < 3 := by
  rcases h with h | h | h
  · exact Or.inl h
  · exact Or.inr (by omega)
  · exact Or.inr (fb_us_used hpk h).1
theorem fb_tabs_st {ls rm ra rc ls' rm' ra' rc' lsn rmn ran rcn lsm rmm ram rcm st pl hd tr tX tY : Nat → Int32} {ax : Nat} {sg tt : Nat → Nat} {τ : Nat → fb_Tab} {T' : fb_Tab}
    (htab : fb_tabs ls rm ra rc ls' rm' ra' rc' st ax sg tt τ) (hsg : fb_perm sg) (hax : ax < 3) (hpk : fb_pkok st pl hd tr tX tY tt sg)
    (hX : fb_rep lsn rmn ran rcn 3 T' ∧ ∀ t T, t ≠ 3 → fb_rep ls rm ra rc t T → fb_rep lsn rmn ran rcn t T)
    (hY : fb_rep lsm rmm ram rcm 0 T' ∧ ∀ t T, t ≠ 0 → fb_rep ls' rm' ra' rc' t T → fb_rep lsm rmm ram rcm t T) :
    fb_tabs lsn rmn ran rcn lsm rmm ram rcm st ax sg tt (fun t => if t = 3 then T' else τ t) := by
  intro t ht
  dsimp only
  rcases fb_kept_lt hpk hax ht with e | e
  · subst e
    rw [if_pos rfl, hsg.1]
    exact ⟨hX.1, hY.1⟩
  · rw [if_neg (by omega)]
    have h := htab t ht
    have r := hsg.2.1 t e
    exact ⟨hX.2 t _ (by omega) h.1, hY.2 (sg t) _ (by omega) h.2⟩
theorem i_vc_rules {k : Nat} {u : SX} {v : SY} (I : i_Rel k u v) (hk : k + 5 ≤ 2560) (v1 : Int32) : wpX_rules (fun r => wpY_rules (fun r' => r' = r ∧ i_Rel (k + 5) u v) v v1) u v1 := by
  obtain ⟨pe, st, pl, hd, tr, ls, rm, ra, rc, tX, ls', rm', ra', rc', tY, ax, sg, tt, τ, oP, oH, sn, rfl, rfl, hpe, hax, hsg, hpk, htab⟩ := I
  have I' := fb_mk (k := k + 5) (oP := oP) (oH := oH) (sn := sn) hpe hax hsg hpk htab
  obtain ⟨RX, RY⟩ := fb_0R hsg htab
  unfold wpX_rules
  rcases fw_ix v1 (n := 5) (by omega) with h1 | ⟨s, hs, rfl⟩
  · refine fx_out (L := 5) h1 (br_t rfl ?_)
    unfold wpY_rules
    rcases h1 with h | h
    · exact br_t h ⟨rfl, I'⟩
    · obtain ⟨a, b, c⟩ := fw_big h (b := 4) (by omega) (by omega)
      exact br_f c (br_f a ⟨rfl, I'⟩)
  · have hX := (RX s hs).2.1
    obtain ⟨_, hY⟩ := fb_rep0 RY hs
    refine fx_in (L := 5) hs (by omega) (br_f (by decide) (fx_lo 3 s rfl rfl ⟨vp_in_nI (by omega) (by omega), ?_⟩))
    rw [nI_clamp (by omega), hX]
    unfold wpY_rules
    refine br_f (nI_pos (by omega)) (br_t (nI_le (b := 4) (by omega) (by omega)) ⟨vp_in_nI (by omega) (by omega), ?_, I'⟩)
    rw [nI_clamp (by omega)]
    exact hY
end
section
/-! what is owed: add, drop, move -/
theorem fw_rb {x : Int32} {L : Nat} {A B : Prop} (hL : L + 1 < 2 ^ 31) (h : x < 0 ∨ nI (L + 1) ≤ x) (a : A) : (x < 0 → A) ∧ (¬ x < 0 → ((nI L < x → A) ∧ (¬ nI L < x → B))) := by
  rcases h with h | h
  · exact br_t h a
  · obtain ⟨p, q, r⟩ := fw_big h (b := L) (by omega) hL
    exact br_f r (br_t q a)
theorem fw_rg {n L : Nat} {A B : Prop} (hL : L < 2 ^ 31) (h : n ≤ L) (b : B) : (nI n < 0 → A) ∧ (¬ nI n < 0 → ((nI L < nI n → A) ∧ (¬ nI L < nI n → B))) :=
  br_f (nI_pos (by omega)) (br_f (nI_nlt h hL) b)
theorem fw_sb {x : Int32} {L : Nat} {A B : Prop} (hL : L + 1 < 2 ^ 31) (h : x < 0 ∨ nI (L + 1) ≤ x) (a : A) : (x < 0 → A) ∧ (¬ x < 0 → ((x ≤ nI L → B) ∧ (¬ x ≤ nI L → A))) := by
  rcases h with h | h
  · exact br_t h a
  · obtain ⟨p, q, r⟩ := fw_big h (b := L) (by omega) hL
    exact br_f r (br_f p a)
theorem fw_sg {n L : Nat} {A B : Prop} (hL : L < 2 ^ 31) (h : n ≤ L) (b : B) : (nI n < 0 → A) ∧ (¬ nI n < 0 → ((nI n ≤ nI L → B) ∧ (¬ nI n ≤ nI L → A))) :=
  br_f (nI_pos (by omega)) (br_t (nI_le h hL) b)
theorem fb_addS {ls rm ra rc : Nat → Int32} {t0 s m a c : Nat} {T : fb_Tab} (R : fb_rep ls rm ra rc t0 T) (hs : s < 5) (hn : T.1 s < 6) (hm : m < 4096) (ha : a < 6) (hc : c < 4096) :
    fb_rep (upd ls (5 * t0 + s) (nI (T.1 s + 1))) (upd rm (6 * (5 * t0 + s) + T.1 s) (nI m)) (upd ra (6 * (5 * t0 + s) + T.1 s) (nI a)) (upd rc (6 * (5 * t0 + s) + T.1 s) (nI c)) t0
      (fb_tset T s (T.1 s + 1) (fun i => if i = T.1 s then m else T.2.1 s i) (fun i => if i = T.1 s then a else T.2.2.1 s i) (fun i => if i = T.1 s then c else T.2.2.2 s i)) ∧
    ∀ t T', t ≠ t0 → fb_rep ls rm ra rc t T' → fb_rep (upd ls (5 * t0 + s) (nI (T.1 s + 1))) (upd rm (6 * (5 * t0 + s) + T.1 s) (nI m)) (upd ra (6 * (5 * t0 + s) + T.1 s) (nI a)) (upd rc (6 * (5 * t0 + s) + T.1 s) (nI c)) t T' := by
  obtain ⟨h6, hl, hrm, hra, hrc⟩ := R s hs
  exact fb_side R hs (by omega) pk_us (fun q hq => pk_un hq) (fb_row_add hrm hm) (fb_row_add hra ha) (fb_row_add hrc hc)
    (fun q hq => pk_un (by omega)) (fun q hq => pk_un (by omega)) (fun q hq => pk_un (by omega))
theorem i_vc_add {k : Nat} {u : SX} {v : SY} (I : i_Rel k u v) (hk : k + 5 ≤ 2560) (v1 : Int32) (v2 : Int32) (v3 : Int32) (v4 : Int32) : wpX_add (fun r u' => wpY_add (fun r' v' => r' = r ∧ i_Rel (k + 5) u' v') v v1 v2 v3 v4) u v1 v2 v3 v4 := by
  obtain ⟨pe, st, pl, hd, tr, ls, rm, ra, rc, tX, ls', rm', ra', rc', tY, ax, sg, tt, τ, oP, oH, sn, rfl, rfl, hpe, hax, hsg, hpk, htab⟩ := I
  have I' := fb_mk (k := k + 5) (oP := oP) (oH := oH) (sn := sn) hpe hax hsg hpk htab
  obtain ⟨RX, RY⟩ := fb_0R hsg htab
  unfold wpX_add
  rcases fw_ix v1 (n := 5) (by omega) with h1 | ⟨s, hs, rfl⟩
  · refine fx_out (L := 5) h1 (br_t rfl ?_)
    unfold wpY_add
    exact fw_rb (L := 4) (by omega) h1 ⟨rfl, I'⟩
  refine fx_in (L := 5) hs (by omega) (br_f (by decide) ?_)
  rcases fw_ix v2 (n := 4096) (by omega) with h2 | ⟨m, hm, rfl⟩
  · refine fx_out (L := 4096) h2 (br_t rfl ?_)
    unfold wpY_add
    exact fw_rg (L := 4) (by omega) (by omega) (fw_rb (L := 4095) (by omega) h2 ⟨rfl, I'⟩)
  refine fx_in (L := 4096) hm (by omega) (br_f (by decide) ?_)
  rcases fw_ix v3 (n := 6) (by omega) with h3 | ⟨a, ha, rfl⟩
  · refine fx_out (L := 6) h3 (br_t rfl ?_)
    unfold wpY_add
    exact fw_rg (L := 4) (by omega) (by omega) (fw_rg (L := 4095) (by omega) (by omega) (fw_rb (L := 5) (by omega) h3 ⟨rfl, I'⟩))
  refine fx_in (L := 6) ha (by omega) (br_f (by decide) ?_)
  rcases fw_ix v4 (n := 4096) (by omega) with h4 | ⟨c, hc, rfl⟩
  · refine fx_out (L := 4096) h4 (br_t rfl ?_)
    unfold wpY_add
    exact fw_rg (L := 4) (by omega) (by omega) (fw_rg (L := 4095) (by omega) (by omega) (fw_rg (L := 5) (by omega) (by omega) (fw_sb (L := 4095) (by omega) h4 ⟨rfl, I'⟩)))
  obtain ⟨h6, hX, _⟩ := RX s hs
  obtain ⟨_, hY⟩ := fb_rep0 RY hs
  have hvX : vp_in (nI (5 * 3 + s)) 20 := vp_in_nI (by omega) (by omega)
  have hcX : (nI (5 * 3 + s)).toNatClampNeg = 5 * 3 + s := nI_clamp (by omega)
  have hvY : vp_in (nI s) 20 := vp_in_nI (by omega) (by omega)
  have hcY : (nI s).toNatClampNeg = s := nI_clamp (by omega)
  refine fx_in (L := 4096) hc (by omega) (br_f (by decide) (fx_lo 3 s rfl rfl ⟨hvX, nm_r (e' := nI ((τ 3).1 s)) (by rw [hcX]; exact hX) ?_⟩))
  refine pk_lt ((τ 3).1 s) 6 (fun hn => ?_) (fun hn => ?_)
  · refine fx_put (6 * (5 * 3 + s) + (τ 3).1 s) ?_ (by omega) ⟨hvX, nm_r (e' := upd ls (5 * 3 + s) (nI ((τ 3).1 s + 1))) (by rw [hcX, nI_1]) ?_⟩
    · rw [show (6 : Int32) = nI 6 from rfl, pk_mul, nI_add]
      exact congrArg nI (by omega)
    · unfold wpY_add
      refine fw_rg (L := 4) (by omega) (by omega) (fw_rg (L := 4095) (by omega) (by omega) (fw_rg (L := 5) (by omega) (by omega) (fw_sg (L := 4095) (by omega) (by omega) ⟨hvY, ?_⟩)))
      rw [hcY, hY]
      refine br_f (fun z => absurd ((nI_eq (b := 6) (by omega) (by omega)).mp z) (by omega)) ⟨hvY, fy_put (6 * (5 * 0 + s) + (τ 3).1 s) ?_ (by omega) ⟨hvY, hvY, nm_r (e' := upd ls' (5 * 0 + s) (nI ((τ 3).1 s + 1))) ?_ ⟨hvY, ?_, ?_⟩⟩⟩
      · rw [show (6 : Int32) = nI 6 from rfl, pk_mul, nI_add]
        exact congrArg nI (by omega)
      · rw [hY, nI_1, show 5 * 0 + s = s by omega]
      · rw [show 5 * 0 + s = s by omega, pk_us, nI_pred]
      · exact fb_mk hpe hax hsg hpk (fb_tabs_st htab hsg hax hpk (fb_addS RX hs hn hm ha hc) (fb_addS RY hs hn hm ha hc))
  · unfold wpY_add
    refine fw_rg (L := 4) (by omega) (by omega) (fw_rg (L := 4095) (by omega) (by omega) (fw_rg (L := 5) (by omega) (by omega) (fw_sg (L := 4095) (by omega) (by omega) ⟨hvY, ?_⟩)))
    rw [hcY, hY]
    exact br_t (by rw [show (τ 3).1 s = 6 by omega]; rfl) ⟨rfl, I'⟩
theorem fb_drX {ls rm ra rc : Nat → Int32} {t0 s i M : Nat} {T : fb_Tab} (R : fb_rep ls rm ra rc t0 T) (hs : s < 5) (hi : i < T.1 s) (hM : M + 1 = T.1 s) (B : Nat) (hB : B = 6 * (5 * t0 + s)) :
    fb_rep (upd ls (5 * t0 + s) (nI M)) (upd (fb_dn (B + M) (B + i) (fb_up (B + i) (B + M) rm)) (B + M) (rm (B + i))) (upd (fb_dn (B + M) (B + i) (fb_up (B + i) (B + M) ra)) (B + M) (ra (B + i))) (upd (fb_dn (B + M) (B + i) (fb_up (B + i) (B + M) rc)) (B + M) (rc (B + i))) t0
      (fb_tset T s M (fun k => T.2.1 s (fb_dpi i k)) (fun k => T.2.2.1 s (fb_dpi i k)) (fun k => T.2.2.2 s (fb_dpi i k))) ∧
    ∀ t T', t ≠ t0 → fb_rep ls rm ra rc t T' → fb_rep (upd ls (5 * t0 + s) (nI M)) (upd (fb_dn (B + M) (B + i) (fb_up (B + i) (B + M) rm)) (B + M) (rm (B + i))) (upd (fb_dn (B + M) (B + i) (fb_up (B + i) (B + M) ra)) (B + M) (ra (B + i))) (upd (fb_dn (B + M) (B + i) (fb_up (B + i) (B + M) rc)) (B + M) (rc (B + i))) t T' := by
  subst hB
  obtain ⟨h6, hl, hrm, hra, hrc⟩ := R s hs
  have hx : ∀ k, k < M → fb_dpi i k < T.1 s := fun k hk => fb_dpi_lt (by omega)
  exact fb_side R hs (by omega) pk_us (fun q hq => pk_un hq)
    (fb_row_ix hrm hx (fun k hk => fb_cellD rm (n := M + 1) (by omega) (by omega)))
    (fb_row_ix hra hx (fun k hk => fb_cellD ra (n := M + 1) (by omega) (by omega)))
    (fb_row_ix hrc hx (fun k hk => fb_cellD rc (n := M + 1) (by omega) (by omega)))
    (fun q hq => fb_frX rm (by omega) (by omega) hq _) (fun q hq => fb_frX ra (by omega) (by omega) hq _) (fun q hq => fb_frX rc (by omega) (by omega) hq _)
theorem fb_drY {ls rm ra rc : Nat → Int32} {t0 s i M : Nat} {T : fb_Tab} (R : fb_rep ls rm ra rc t0 T) (hs : s < 5) (hi : i < T.1 s) (hM : M + 1 = T.1 s) (B C : Nat) (hB : B = 6 * (5 * t0 + s)) (hC : C = 5 * t0 + s) :
    fb_rep (upd ls C (nI M)) (fb_up (B + i) (B + M) rm) (fb_up (B + i) (B + M) ra) (fb_up (B + i) (B + M) rc) t0
      (fb_tset T s M (fun k => T.2.1 s (fb_dpi i k)) (fun k => T.2.2.1 s (fb_dpi i k)) (fun k => T.2.2.2 s (fb_dpi i k))) ∧
    ∀ t T', t ≠ t0 → fb_rep ls rm ra rc t T' → fb_rep (upd ls C (nI M)) (fb_up (B + i) (B + M) rm) (fb_up (B + i) (B + M) ra) (fb_up (B + i) (B + M) rc) t T' := by
  subst hB hC
  obtain ⟨h6, hl, hrm, hra, hrc⟩ := R s hs
  have hx : ∀ k, k < M → fb_dpi i k < T.1 s := fun k hk => fb_dpi_lt (by omega)
  exact fb_side R hs (by omega) pk_us (fun q hq => pk_un hq)
    (fb_row_ix hrm hx (fun k hk => fb_cellU rm (n := M + 1) (by omega) (by omega)))
    (fb_row_ix hra hx (fun k hk => fb_cellU ra (n := M + 1) (by omega) (by omega)))
    (fb_row_ix hrc hx (fun k hk => fb_cellU rc (n := M + 1) (by omega) (by omega)))
    (fun q hq => fb_frU rm (by omega) hq) (fun q hq => fb_frU ra (by omega) hq) (fun q hq => fb_frU rc (by omega) hq)
theorem i_vc_drop {k : Nat} {u : SX} {v : SY} (I : i_Rel k u v) (hk : k + 5 ≤ 2560) (v1 : Int32) (v2 : Int32) : wpX_drop (fun r u' => wpY_drop (fun r' v' => r' = r ∧ i_Rel (k + 5) u' v') v v1 v2) u v1 v2 := by
  obtain ⟨pe, st, pl, hd, tr, ls, rm, ra, rc, tX, ls', rm', ra', rc', tY, ax, sg, tt, τ, oP, oH, sn, rfl, rfl, hpe, hax, hsg, hpk, htab⟩ := I
  have I' := fb_mk (k := k + 5) (oP := oP) (oH := oH) (sn := sn) hpe hax hsg hpk htab
  obtain ⟨RX, RY⟩ := fb_0R hsg htab
  rcases fw_ix v1 (n := 5) (by omega) with h1 | ⟨s, hs, rfl⟩
  · unfold wpX_drop
    refine fx_sr_s h1 (br_t rfl ?_)
    unfold wpY_drop
    exact fy_nr_s h1 (br_f (by decide) ⟨rfl, I'⟩)
  obtain ⟨h6, hX, _⟩ := RX s hs
  rcases fw_ix v2 (n := (τ 3).1 s) (by omega) with h2 | ⟨i, hi, rfl⟩
  · unfold wpX_drop
    refine fx_sr_i RX hs h2 (br_t rfl ?_)
    unfold wpY_drop
    exact fy_nr_i RY hs h2 (br_f (by decide) ⟨rfl, I'⟩)
  obtain ⟨M, hM⟩ : ∃ M, M + 1 = (τ 3).1 s := ⟨(τ 3).1 s - 1, by omega⟩
  have hvX : vp_in (nI (5 * 3 + s)) 20 := vp_in_nI (by omega) (by omega)
  have hcX : (nI (5 * 3 + s)).toNatClampNeg = 5 * 3 + s := nI_clamp (by omega)
  have eM : ls (nI (5 * 3 + s)).toNatClampNeg - 1 = nI M := by rw [hcX, hX, ← hM, nI_pred]
  unfold wpX_drop
  refine fx_sr RX hs hi (br_f (by decide) (fx_lo 3 s rfl rfl ⟨hvX, nm_r eM (fx_shift (by omega) (by omega) (by omega) ⟨hvX, nm_r (e' := upd ls (5 * 3 + s) (nI M)) (by rw [hcX]) ?_⟩)⟩))
  exact fy_drop RY hs hi hM ⟨rfl, fb_mk hpe hax hsg hpk (fb_tabs_st htab hsg hax hpk (fb_drX RX hs hi hM _ rfl) (fb_drY RY hs hi hM _ _ (by omega) (by omega)))⟩
theorem fb_mvX {ls rm ra rc : Nat → Int32} {t0 s i j : Nat} {T : fb_Tab} (R : fb_rep ls rm ra rc t0 T) (hs : s < 5) (hi : i < T.1 s) (hj : j < T.1 s) (B : Nat) (hB : B = 6 * (5 * t0 + s)) :
    fb_rep ls (upd (fb_dn (B + j) (B + i) (fb_up (B + i) (B + j) rm)) (B + j) (rm (B + i))) (upd (fb_dn (B + j) (B + i) (fb_up (B + i) (B + j) ra)) (B + j) (ra (B + i))) (upd (fb_dn (B + j) (B + i) (fb_up (B + i) (B + j) rc)) (B + j) (rc (B + i))) t0
      (fb_tset T s (T.1 s) (fun k => T.2.1 s (fb_mvi i j k)) (fun k => T.2.2.1 s (fb_mvi i j k)) (fun k => T.2.2.2 s (fb_mvi i j k))) ∧
    ∀ t T', t ≠ t0 → fb_rep ls rm ra rc t T' → fb_rep ls (upd (fb_dn (B + j) (B + i) (fb_up (B + i) (B + j) rm)) (B + j) (rm (B + i))) (upd (fb_dn (B + j) (B + i) (fb_up (B + i) (B + j) ra)) (B + j) (ra (B + i))) (upd (fb_dn (B + j) (B + i) (fb_up (B + i) (B + j) rc)) (B + j) (rc (B + i))) t T' := by
  subst hB
  obtain ⟨h6, hl, hrm, hra, hrc⟩ := R s hs
  have hx : ∀ k, k < T.1 s → fb_mvi i j k < T.1 s := fun k hk => fb_mvi_lt hi hj hk
  exact fb_side R hs h6 hl (fun q hq => rfl)
    (fb_row_ix hrm hx (fun k hk => fb_cellX rm _ i j k)) (fb_row_ix hra hx (fun k hk => fb_cellX ra _ i j k)) (fb_row_ix hrc hx (fun k hk => fb_cellX rc _ i j k))
    (fun q hq => fb_frX rm (by omega) (by omega) hq _) (fun q hq => fb_frX ra (by omega) (by omega) hq _) (fun q hq => fb_frX rc (by omega) (by omega) hq _)
theorem fb_mvY {ls rm ra rc : Nat → Int32} {t0 s i j M : Nat} {T : fb_Tab} (R : fb_rep ls rm ra rc t0 T) (hs : s < 5) (hi : i < T.1 s) (hj : j < T.1 s) (hM : M + 1 = T.1 s) (B C : Nat) (hB : B = 6 * (5 * t0 + s)) (hC : C = 5 * t0 + s) :
    fb_rep (upd (upd ls C (nI M)) C (nI (M + 1))) (upd (fb_dn (B + j) (B + M) (fb_up (B + i) (B + M) rm)) (B + j) (rm (B + i))) (upd (fb_dn (B + j) (B + M) (fb_up (B + i) (B + M) ra)) (B + j) (ra (B + i))) (upd (fb_dn (B + j) (B + M) (fb_up (B + i) (B + M) rc)) (B + j) (rc (B + i))) t0
      (fb_tset T s (T.1 s) (fun k => T.2.1 s (fb_mvi i j k)) (fun k => T.2.2.1 s (fb_mvi i j k)) (fun k => T.2.2.2 s (fb_mvi i j k))) ∧
    ∀ t T', t ≠ t0 → fb_rep ls rm ra rc t T' → fb_rep (upd (upd ls C (nI M)) C (nI (M + 1))) (upd (fb_dn (B + j) (B + M) (fb_up (B + i) (B + M) rm)) (B + j) (rm (B + i))) (upd (fb_dn (B + j) (B + M) (fb_up (B + i) (B + M) ra)) (B + j) (ra (B + i))) (upd (fb_dn (B + j) (B + M) (fb_up (B + i) (B + M) rc)) (B + j) (rc (B + i))) t T' := by
  subst hB hC
  obtain ⟨h6, hl, hrm, hra, hrc⟩ := R s hs
  have hx : ∀ k, k < T.1 s → fb_mvi i j k < T.1 s := fun k hk => fb_mvi_lt hi hj hk
  exact fb_side R hs h6 (by rw [pk_us, hM]) (fun q hq => by rw [pk_un hq, pk_un hq])
    (fb_row_ix hrm hx (fun k hk => fb_cellY rm (n := T.1 s) (by omega) hi hj hk)) (fb_row_ix hra hx (fun k hk => fb_cellY ra (n := T.1 s) (by omega) hi hj hk)) (fb_row_ix hrc hx (fun k hk => fb_cellY rc (n := T.1 s) (by omega) hi hj hk))
    (fun q hq => fb_frY rm (by omega) (by omega) hq _) (fun q hq => fb_frY ra (by omega) (by omega) hq _) (fun q hq => fb_frY rc (by omega) (by omega) hq _)
theorem i_vc_move {k : Nat} {u : SX} {v : SY} (I : i_Rel k u v) (hk : k + 5 ≤ 2560) (v1 : Int32) (v2 : Int32) (v3 : Int32) : wpX_move (fun r u' => wpY_move (fun r' v' => r' = r ∧ i_Rel (k + 5) u' v') v v1 v2 v3) u v1 v2 v3 := by
  obtain ⟨pe, st, pl, hd, tr, ls, rm, ra, rc, tX, ls', rm', ra', rc', tY, ax, sg, tt, τ, oP, oH, sn, rfl, rfl, hpe, hax, hsg, hpk, htab⟩ := I
  have I' := fb_mk (k := k + 5) (oP := oP) (oH := oH) (sn := sn) hpe hax hsg hpk htab
  obtain ⟨RX, RY⟩ := fb_0R hsg htab
  rcases fw_ix v1 (n := 5) (by omega) with h1 | ⟨s, hs, rfl⟩
  · unfold wpX_move
    refine fx_sr_s h1 (br_t rfl ?_)
    unfold wpY_move
    exact fy_nr_s h1 (br_f (by decide) ⟨rfl, I'⟩)
  obtain ⟨h6, hX, _⟩ := RX s hs
  rcases fw_ix v2 (n := (τ 3).1 s) (by omega) with h2 | ⟨i, hi, rfl⟩
  · unfold wpX_move
    refine fx_sr_i RX hs h2 (br_t rfl ?_)
    unfold wpY_move
    exact fy_nr_i RY hs h2 (br_f (by decide) ⟨rfl, I'⟩)
  rcases fw_ix v3 (n := (τ 3).1 s) (by omega) with h3 | ⟨j, hj, rfl⟩
  · unfold wpX_move
    refine fx_sr RX hs hi (br_f (by decide) (fx_sr_i RX hs h3 (br_t rfl ?_)))
    unfold wpY_move
    exact fy_nr RY hs hi (br_t rfl (fy_nr_i RY hs h3 (br_f (by decide) ⟨rfl, I'⟩)))
  obtain ⟨M, hM⟩ : ∃ M, M + 1 = (τ 3).1 s := ⟨(τ 3).1 s - 1, by omega⟩
  unfold wpX_move
  refine fx_sr RX hs hi (br_f (by decide) (fx_sr RX hs hj (br_f (by decide) (fx_lo 3 s rfl rfl (fx_shift (by omega) (by omega) (by omega) ?_)))))
  exact fy_move RY hs hi hj hM ⟨rfl, fb_mk hpe hax hsg hpk (fb_tabs_st htab hsg hax hpk (fb_mvX RX hs hi hj _ rfl) (fb_mvY RY hs hi hj hM _ _ (by omega) (by omega)))⟩
end
section
/-! what is owed: publish, revert, send, tick, state, where, header -/
theorem i_vc_state {k : Nat} {u : SX} {v : SY} (I : i_Rel k u v) (hk : k + 5 ≤ 2560) (v1 : Int32) : wpX_state (fun r => wpY_state (fun r' => r' = r ∧ i_Rel (k + 5) u v) v v1) u v1 := by
  obtain ⟨pe, st, pl, hd, tr, ls, rm, ra, rc, tX, ls', rm', ra', rc', tY, ax, sg, tt, τ, oP, oH, sn, rfl, rfl, hpe, hax, hsg, hpk, htab⟩ := I
  have I' := fb_mk (k := k + 5) (oP := oP) (oH := oH) (sn := sn) hpe hax hsg hpk htab
  unfold wpX_state
  rcases fw_ix v1 (n := 8) (by omega) with h1 | ⟨a, ha, rfl⟩
  · refine fx_out (L := 8) h1 (br_t rfl ?_)
    unfold wpY_state
    exact fw_sb (L := 7) (by omega) h1 ⟨rfl, I'⟩
  · have hv : vp_in (nI a) 8 := vp_in_nI ha (by omega)
    refine fx_in (L := 8) ha (by omega) (br_f (by decide) ⟨hv, ?_⟩)
    unfold wpY_state
    exact fw_sg (L := 7) (by omega) (by omega) ⟨hv, rfl, I'⟩
theorem i_vc_where {k : Nat} {u : SX} {v : SY} (I : i_Rel k u v) (hk : k + 5 ≤ 2560) (v1 : Int32) : wpX_where (fun r => wpY_where (fun r' => r' = r ∧ i_Rel (k + 5) u v) v v1) u v1 := by
  obtain ⟨pe, st, pl, hd, tr, ls, rm, ra, rc, tX, ls', rm', ra', rc', tY, ax, sg, tt, τ, oP, oH, sn, rfl, rfl, hpe, hax, hsg, hpk, htab⟩ := I
  have I' := fb_mk (k := k + 5) (oP := oP) (oH := oH) (sn := sn) hpe hax hsg hpk htab
  unfold wpX_where
  rcases fw_ix v1 (n := 8) (by omega) with h1 | ⟨a, ha, rfl⟩
  · refine fx_out (L := 8) h1 (br_t rfl ?_)
    unfold wpY_where
    exact fw_sb (L := 7) (by omega) h1 ⟨rfl, I'⟩
  · have hv : vp_in (nI a) 8 := vp_in_nI ha (by omega)
    refine fx_in (L := 8) ha (by omega) (br_f (by decide) ⟨hv, br_c (fun e => ?_) (fun e => ⟨hv, ?_⟩)⟩)
    · unfold wpY_where
      exact fw_sg (L := 7) (by omega) (by omega) ⟨hv, br_t e ⟨rfl, I'⟩⟩
    · unfold wpY_where
      exact fw_sg (L := 7) (by omega) (by omega) ⟨hv, br_f e ⟨hv, rfl, I'⟩⟩
theorem i_vc_header {k : Nat} {u : SX} {v : SY} (I : i_Rel k u v) (hk : k + 5 ≤ 2560) (v1 : Int32) : wpX_header (fun r => wpY_header (fun r' => r' = r ∧ i_Rel (k + 5) u v) v v1) u v1 := by
  obtain ⟨pe, st, pl, hd, tr, ls, rm, ra, rc, tX, ls', rm', ra', rc', tY, ax, sg, tt, τ, oP, oH, sn, rfl, rfl, hpe, hax, hsg, hpk, htab⟩ := I
  have I' := fb_mk (k := k + 5) (oP := oP) (oH := oH) (sn := sn) hpe hax hsg hpk htab
  unfold wpX_header
  rcases fw_ix v1 (n := 8) (by omega) with h1 | ⟨a, ha, rfl⟩
  · refine fx_out (L := 8) h1 (br_t rfl ?_)
    unfold wpY_header
    exact fw_sb (L := 7) (by omega) h1 ⟨rfl, I'⟩
  · have hv : vp_in (nI a) 8 := vp_in_nI ha (by omega)
    refine fx_in (L := 8) ha (by omega) (br_f (by decide) ⟨hv, br_c (fun e => ?_) (fun e => ⟨hv, ?_⟩)⟩)
    · unfold wpY_header
      exact fw_sg (L := 7) (by omega) (by omega) ⟨hv, br_t e ⟨rfl, I'⟩⟩
    · unfold wpY_header
      exact fw_sg (L := 7) (by omega) (by omega) ⟨hv, br_f e ⟨hv, rfl, I'⟩⟩
section
variable {fA : Int32} {pe ls rm ra rc st pl hd tX tr : Nat → Int32}
theorem fx_p29 {post : Int32 → SX → Prop} {x : Nat} {w : Nat → Bool} (ew : ∀ t, w t = fb_usR st tX (nI t)) (hx : x < 3)
    (hp : post (nI (fb_cnt (fun t => decide (t = x) || w t) 3)) (nI x, pe, fb_cp (5 * 3) (5 * x) ls 5, fb_cp (30 * 3) (30 * x) rm 30, fb_cp (30 * 3) (30 * x) ra 30, fb_cp (30 * 3) (30 * x) rc 30, st, pl, hd, tX, tr)) :
    wX_publish_29 post (nI x) pe ls rm ra rc st pl hd tX tr := by
  unfold wX_publish_29
  refine fx_ct 3 x rfl rfl (by omega) (by omega) (by omega) (fx_kt ?_)
  have e : fb_cnt (fun t => decide (nI t = nI x) || fb_usR st tX (nI t)) 3 = fb_cnt (fun t => decide (t = x) || w t) 3 := by
    refine fb_cnt_congr fun t ht => ?_
    have e1 : decide (nI t = nI x) = decide (t = x) := decide_eq_decide.mpr (nI_eq (by omega) (by omega))
    rw [e1, ew]
  rw [e]
  exact hp
theorem fx_publish {post : Int32 → SX → Prop} {ax : Nat} {w : Nat → Bool} (ew : ∀ t, w t = fb_usR st tX (nI t)) (hax : ax < 3) (hn : fb_px ax w = none → post (-4) (nI ax, pe, ls, rm, ra, rc, st, pl, hd, tX, tr))
    (hp : ∀ x, fb_px ax w = some x → x < 3 → post (nI (fb_cnt (fun t => decide (t = x) || w t) 3)) (nI x, pe, fb_cp (5 * 3) (5 * x) ls 5, fb_cp (30 * 3) (30 * x) rm 30, fb_cp (30 * 3) (30 * x) ra 30, fb_cp (30 * 3) (30 * x) rc 30, st, pl, hd, tX, tr)) :
    wpX_publish post (nI ax, pe, ls, rm, ra, rc, st, pl, hd, tX, tr) := by
  have ef : fb_find (fun t => !(decide (nI t = nI ax) || fb_usR st tX (nI t))) 3 0 = fb_find (fun t => !(decide (t = ax) || w t)) 3 0 := by
    refine fb_find_congr fun t _ ht => ?_
    have e1 : decide (nI t = nI ax) = decide (t = ax) := decide_eq_decide.mpr (nI_eq (by omega) (by omega))
    rw [e1, ew]
  unfold wpX_publish
  refine fx_tp (fun u => ?_) (fun u => ?_)
  · rw [← ew] at u
    have epx : fb_px ax w = fb_find (fun t => !(decide (t = ax) || w t)) 3 0 := by
      unfold fb_px
      exact if_pos u
    refine br_f (by decide) (fx_us ?_)
    rw [ef, ← epx]
    cases hx : fb_px ax w with
    | none => exact br_t rfl (hn hx)
    | some x =>
      have hx3 := (fb_px_some hax hx).1
      exact br_f (fw_m1 (n := x) (by omega)) (fx_p29 ew hx3 (hp x hx hx3))
  · rw [← ew] at u
    have epx : fb_px ax w = some ax := by
      unfold fb_px
      exact if_neg (by rw [u]; decide)
    exact br_t rfl (fx_p29 ew hax (hp ax epx hax))
end
theorem fb_sg_w {sg : Nat → Nat} {x y : Nat} {f g : Nat → Bool} (hsg : fb_perm sg) (hx : x < 3) (h1 : 1 ≤ y) (h3 : y ≤ 3) (e : ∀ t, t < 3 → g (sg t) = f t) (ux : f x = false) (wy : g y = false) :
    fb_cnt (fun t => decide (t + 1 = y) || g (t + 1)) 3 = fb_cnt (fun t => decide (t = x) || f t) 3 := by
  refine fb_cnt_perm (g := fun t => decide (t = y) || g t) (fb_sg_perm hsg hx h1 h3) (fun t ht => ?_)
  have pp := fb_sg_perm hsg hx h1 h3
  have ex : fb_sg sg x y x = y := if_pos rfl
  by_cases htx : t = x
  · subst htx
    rw [ex, decide_eq_true rfl, decide_eq_true rfl]
    rfl
  · have hne : ¬ fb_sg sg x y t = y := fun z => htx (pp.2.2 t x ht hx (z.trans ex.symm))
    rw [decide_eq_false hne, decide_eq_false htx, Bool.false_or, Bool.false_or]
    by_cases hy : sg t = y
    · have e2 : fb_sg sg x y t = sg x := (if_neg htx).trans (if_pos hy)
      rw [e2, e x hx, ux, ← e t ht, hy, wy]
    · have e2 : fb_sg sg x y t = sg t := (if_neg htx).trans (if_neg hy)
      rw [e2, e t ht]
theorem i_vc_publish {k : Nat} {u : SX} {v : SY} (I : i_Rel k u v) (hk : k + 5 ≤ 2560) : wpX_publish (fun r u' => wpY_publish (fun r' v' => r' = r ∧ i_Rel (k + 5) u' v') v) u := by
  obtain ⟨pe, st, pl, hd, tr, ls, rm, ra, rc, tX, ls', rm', ra', rc', tY, ax, sg, tt, τ, oP, oH, sn, rfl, rfl, hpe, hax, hsg, hpk, htab⟩ := I
  have I' := fb_mk (k := k + 5) (oP := oP) (oH := oH) (sn := sn) hpe hax hsg hpk htab
  have hay := hsg.2.1 ax hax
  have e : ∀ t, t < 3 → fb_usR st tY (nI (sg t)) = fb_usR st tX (nI t) := fun t ht => fb_us_sg hpk hsg ht
  have hpub := fb_pub (u := fun t => fb_usR st tX (nI t)) (w := fun t => fb_usR st tY (nI t)) hsg hax e
  refine fx_publish (w := fun t => fb_usR st tX (nI t)) (fun _ => rfl) hax (fun hn => ?_) (fun x hx hx3 => ?_)
  · refine fy_publish (w := fun t => fb_usR st tY (nI t)) (fun _ => rfl) hay.1 hay.2 rfl (fun _ => ⟨rfl, I'⟩) (fun y hy h1 h3 => ?_)
    rcases hpub with ⟨_, h0⟩ | ⟨x, _, h, _⟩
    · omega
    · rw [hn] at h
      cases h
  · rcases hpub with ⟨h0, _⟩ | ⟨x', y', hx', hy', _, ux, r1, r3, wy⟩
    · rw [hx] at h0
      cases h0
    · rw [hx] at hx'
      cases hx'
      refine fy_publish (w := fun t => fb_usR st tY (nI t)) (fun _ => rfl) hay.1 hay.2 rfl (fun h0 => by omega) (fun y hy h1 h3 => ?_)
      obtain rfl : y = y' := hy.symm.trans hy'
      have ex : fb_sg sg x y x = y := if_pos rfl
      have hus : ∀ t, fb_used st tt t → t ≠ x ∧ t < 3 ∧ sg t ≠ y ∧ fb_sg sg x y t = sg t := by
        intro t hu
        obtain ⟨ht3, ht⟩ := fb_us_used hpk hu
        have n1 : t ≠ x := by
          intro z
          rw [z, ux] at ht
          cases ht
        have n2 : sg t ≠ y := by
          intro z
          rw [← e t ht3, z, wy] at ht
          cases ht
        exact ⟨n1, ht3, n2, (if_neg n1).trans (if_neg n2)⟩
      refine ⟨congrArg nI (fb_sg_w (f := fun t => fb_usR st tX (nI t)) (g := fun t => fb_usR st tY (nI t)) hsg hx3 h1 h3 e ux wy), ?_⟩
      have hm := fb_mk (k := k + 5) (ax := x) (sg := fb_sg sg x y) (tt := tt) (τ := fun t => if t = x then τ 3 else τ t) (pe := pe) (st := st) (pl := pl) (hd := hd) (tr := tr) (tX := tX) (tY := tY)
        (ls := fb_cp (5 * 3) (5 * x) ls 5) (rm := fb_cp (30 * 3) (30 * x) rm 30) (ra := fb_cp (30 * 3) (30 * x) ra 30) (rc := fb_cp (30 * 3) (30 * x) rc 30)
        (ls' := fb_cp (5 * 0) (5 * y) ls' 5) (rm' := fb_cp (30 * 0) (30 * y) rm' 30) (ra' := fb_cp (30 * 0) (30 * y) ra' 30) (rc' := fb_cp (30 * 0) (30 * y) rc' 30) (oP := oP) (oH := oH) (sn := sn)
        hpe hx3 (fb_sg_perm hsg hx3 h1 h3) ?_ ?_
      · rw [ex] at hm
        exact hm
      · intro j hj hst
        obtain ⟨a, b, c, d, e1, e2⟩ := hpk j hj hst
        rw [(hus (tt j) ⟨j, hj, hst, rfl⟩).2.2.2]
        exact ⟨a, b, c, d, e1, e2⟩
      · obtain ⟨RX, RY⟩ := fb_0R hsg htab
        intro t ht
        dsimp only
        rcases ht with ht | ht | ht
        · subst ht
          have e3 : fb_sg sg x y 3 = 0 := (fb_sg_perm hsg hx3 h1 h3).1
          rw [if_neg (by omega), e3]
          exact ⟨fb_rep_cpn (by omega) RX, fb_rep_cpn (by omega) RY⟩
        · subst ht
          rw [if_pos rfl, ex]
          exact ⟨fb_rep_cp RX, fb_rep_cp RY⟩
        · obtain ⟨n1, n2, n3, n4⟩ := hus t ht
          rw [if_neg n1, n4]
          have hh := htab t (Or.inr (Or.inr ht))
          exact ⟨fb_rep_cpn n1 hh.1, fb_rep_cpn n3 hh.2⟩
theorem i_vc_revert {k : Nat} {u : SX} {v : SY} (I : i_Rel k u v) (hk : k + 5 ≤ 2560) : wpX_revert (fun r u' => wpY_revert (fun r' v' => r' = r ∧ i_Rel (k + 5) u' v') v) u := by
  obtain ⟨pe, st, pl, hd, tr, ls, rm, ra, rc, tX, ls', rm', ra', rc', tY, ax, sg, tt, τ, oP, oH, sn, rfl, rfl, hpe, hax, hsg, hpk, htab⟩ := I
  have hay := hsg.2.1 ax hax
  have hA := htab ax (Or.inr (Or.inl rfl))
  have RX := fb_rep_cp (b := 3) hA.1
  have RY := fb_rep_cp (b := 0) hA.2
  unfold wpX_revert
  refine fx_ct ax 3 rfl rfl (by omega) (by omega) (by omega) ⟨6, fx_rv13 ?_ 5 0 rfl 6 (by omega)⟩
  unfold wpY_revert
  refine fy_ct (sg ax) 0 rfl rfl (by omega) (by omega) (by omega) ⟨?_, ?_⟩
  · have x0 := (RX 0 (by omega)).2.1
    have x1 := (RX 1 (by omega)).2.1
    have x2 := (RX 2 (by omega)).2.1
    have x3 := (RX 3 (by omega)).2.1
    have x4 := (RX 4 (by omega)).2.1
    have y0 := (RY 0 (by omega)).2.1
    have y1 := (RY 1 (by omega)).2.1
    have y2 := (RY 2 (by omega)).2.1
    have y3 := (RY 3 (by omega)).2.1
    have y4 := (RY 4 (by omega)).2.1
    simp only [fb_sum]
    have z0 := y0.trans x0.symm
    have z1 := y1.trans x1.symm
    have z2 := y2.trans x2.symm
    have z3 := y3.trans x3.symm
    have z4 := y4.trans x4.symm
    rw [Int32.zero_add]
    exact congr (congrArg _ (congr (congrArg _ (congr (congrArg _ (congr (congrArg _ z0) z1)) z2)) z3)) z4
  · refine fb_mk (τ := fun t => if t = 3 then τ ax else τ t) hpe hax hsg hpk (fb_tabs_st htab hsg hax hpk ⟨RX, fun t T hne R => fb_rep_cpn hne R⟩ ⟨RY, fun t T hne R => fb_rep_cpn hne R⟩)
theorem i_vc_send {k : Nat} {u : SX} {v : SY} (I : i_Rel k u v) (hk : k + 5 ≤ 2560) (v1 : Int32) (v2 : Int32) : wpX_send (fun r u' => wpY_send (fun r' v' => r' = r ∧ i_Rel (k + 5) u' v') v v1 v2) u v1 v2 := by
  obtain ⟨pe, st, pl, hd, tr, ls, rm, ra, rc, tX, ls', rm', ra', rc', tY, ax, sg, tt, τ, oP, oH, sn, rfl, rfl, hpe, hax, hsg, hpk, htab⟩ := I
  have I' := fb_mk (k := k + 5) (oP := oP) (oH := oH) (sn := sn) hpe hax hsg hpk htab
  unfold wpX_send
  rcases fw_ix v1 (n := 20) (by omega) with h1 | ⟨p, hp20, rfl⟩
  · refine fx_out (L := 20) h1 (br_t rfl ?_)
    unfold wpY_send
    exact fy_plb h1 (br_f (by decide) ⟨rfl, I'⟩)
  refine fx_in (L := 20) hp20 (by omega) (br_f (by decide) ?_)
  rcases fw_ix v2 (n := 64) (by omega) with h2 | ⟨h, hh, rfl⟩
  · refine fx_out (L := 64) h2 (br_t rfl ?_)
    unfold wpY_send
    exact fy_pl hp20 (br_t rfl (fy_byb h2 (br_f (by decide) ⟨rfl, I'⟩)))
  have hvp : vp_in (nI p) 20 := vp_in_nI hp20 (by omega)
  have hcp : (nI p).toNatClampNeg = p := nI_clamp (by omega)
  refine fx_in (L := 64) hh (by omega) (br_f (by decide) ⟨hvp, ?_⟩)
  rw [hcp]
  by_cases ep : pe p = -1
  · refine br_t ep (fx_lf ?_)
    cases hf : fb_find (fun k => decide (¬ st k = 1)) 8 0 with
    | none =>
      have hall : ∀ j, j < 8 → st j = 1 := by
        intro j hj
        have := fb_find_none hf j (by omega) (by omega)
        exact Decidable.of_not_not (of_decide_eq_false this)
      refine br_t rfl ?_
      unfold wpY_send
      refine fy_pl hp20 (br_t rfl (fy_by hh (br_t rfl ⟨hvp, ?_⟩)))
      rw [hcp]
      refine br_t (fw_no ep).2 (fy_if (br_t ?_ ⟨rfl, I'⟩))
      rw [fb_cnt_all (fun j hj => decide_eq_true (hall j hj))]
      rfl
    | some j =>
      obtain ⟨_, hj8, hjf⟩ := fb_find_some hf
      have hst : ¬ st j = 1 := of_decide_eq_true hjf
      have hlt : ∀ i, i < j → st i = 1 := by
        intro i hi
        have := fb_find_min hf i (by omega) hi
        exact Decidable.of_not_not (of_decide_eq_false this)
      have hvj : vp_in (nI j) 8 := vp_in_nI (by omega) (by omega)
      have hcj : (nI j).toNatClampNeg = j := nI_clamp (by omega)
      refine br_f (c := fb_oi (-1) (some j) = -1) (fw_m1 (n := j) (by omega)) ?_
      rw [show fb_oi (-1) (some j) = nI j from rfl, hcj]
      refine ⟨hvj, nm_e ⟨hvj, nm_e ⟨hvj, nm_e ⟨hvj, nm_e ⟨hvj, nm_e ?_⟩⟩⟩⟩⟩
      unfold wpY_send
      refine fy_pl hp20 (br_t rfl (fy_by hh (br_t rfl ⟨hvp, ?_⟩)))
      rw [hcp]
      have hcl := fb_cnt_lt (f := fun k => decide (st k = 1)) (n := 8) (j := j) (by omega) (fun z => hst (of_decide_eq_true z))
      refine br_t (fw_no ep).2 (fy_if (br_f (fun z => ?_) ⟨j + 1, fy_s44 (by omega) hst hlt ⟨rfl, ?_⟩ j 0 (by omega) (j + 1) (by omega)⟩))
      · have := (nI_eq (b := 8) (by omega) (by omega)).mp z
        omega
      · have hpk' : fb_pkok (upd st j 1) (upd pl j (nI p)) (upd hd j (nI h)) (upd tr j 0) (upd tX j (nI ax)) (upd tY j (nI (sg ax))) (fun i => if i = j then ax else tt i) sg := by
          intro i hi his
          dsimp only
          by_cases e : i = j
          · subst e
            rw [pk_us, pk_us, pk_us, pk_us, pk_us, if_pos rfl]
            exact ⟨⟨p, hp20, rfl⟩, ⟨h, hh, rfl⟩, ⟨0, by omega, rfl⟩, hax, rfl, rfl⟩
          · rw [pk_un e] at his
            rw [pk_un e, pk_un e, pk_un e, pk_un e, pk_un e, if_neg e]
            exact hpk i hi his
        refine fb_mk (τ := τ) hpe hax hsg hpk' ?_
        intro t ht
        refine htab t ?_
        rcases ht with ht | ht | ⟨i, hi, his, hti⟩
        · exact Or.inl ht
        · exact Or.inr (Or.inl ht)
        · dsimp only at hti
          by_cases e : i = j
          · rw [if_pos e] at hti
            exact Or.inr (Or.inl hti.symm)
          · rw [if_neg e] at hti
            rw [pk_un e] at his
            exact Or.inr (Or.inr ⟨i, hi, his, hti⟩)
  · obtain ⟨c, hc, ec⟩ := fb_pe_on hpe hp20 ep
    refine br_f ep ?_
    unfold wpY_send
    refine fy_pl hp20 (br_t rfl (fy_by hh (br_t rfl ⟨hvp, ?_⟩)))
    rw [hcp]
    exact br_f (by rw [ec]; exact nI_pos (by omega)) ⟨rfl, I'⟩
theorem i_vc_tick {k : Nat} {u : SX} {v : SY} (I : i_Rel k u v) (hk : k + 5 ≤ 2560) : wpX_tick (fun r u' => wpY_tick (fun r' v' => r' = r ∧ i_Rel (k + 5) u' v') v) u := by
  obtain ⟨pe, st, pl, hd, tr, ls, rm, ra, rc, tX, ls', rm', ra', rc', tY, ax, sg, tt, τ, oP, oH, sn, rfl, rfl, hpe, hax, hsg, hpk, htab⟩ := I
  have hR : ∀ k, k < 8 → st k = 1 → tt k < 3 ∧ fb_rep ls rm ra rc (tt k) (τ (tt k)) ∧ fb_rep ls' rm' ra' rc' (sg (tt k)) (τ (tt k)) := by
    intro j hj hst
    have h := htab (tt j) (Or.inr (Or.inr ⟨j, hj, hst, rfl⟩))
    exact ⟨(hpk j hj hst).2.2.2.1, h.1, h.2⟩
  have hQ := fb_tk_ok (τ := τ) (q := (st, pl, hd, tr)) hpe (fun j hj hst => fb_rep_ok (hR j hj hst).2.1) hpk 8 (by omega)
  generalize eQ : fb_tk τ pe tt 8 (st, pl, hd, tr) = Q at hQ
  obtain ⟨hQ1, hQ2⟩ := hQ
  refine fx_tick (τ := τ) (tt := tt) (sg := sg) hpe (fun j hj hst => ⟨by have := (hR j hj hst).1; omega, (hR j hj hst).2.1⟩) hpk Q eQ ?_
  refine fy_tick (τ := τ) (tt := tt) (sg := sg) hpe (fun j hj hst => ⟨by have := hsg.2.1 _ (hR j hj hst).1; omega, (hR j hj hst).2.2⟩) hpk Q eQ (fun oP oH => ⟨rfl, ?_⟩)
  refine fb_mk (τ := τ) hpe hax hsg hQ1 ?_
  intro t ht
  refine htab t ?_
  rcases ht with ht | ht | ⟨i, hi, his, hti⟩
  · exact Or.inl ht
  · exact Or.inr (Or.inl ht)
  · exact Or.inr (Or.inr ⟨i, hi, hQ2 i his, hti⟩)
end
section
/-! what is owed: the questions -/
theorem fb_from {ls rm ra rc ls' rm' ra' rc' st : Nat → Int32} {ax : Nat} {sg tt : Nat → Nat} {τ : Nat → fb_Tab} (hsg : fb_perm sg) (hax : ax < 3) (htab : fb_tabs ls rm ra rc ls' rm' ra' rc' st ax sg tt τ) (f : Nat) :
    ∃ t, t < 4 ∧ sg t < 4 ∧ fb_rep ls rm ra rc t (τ t) ∧ fb_rep ls' rm' ra' rc' (sg t) (τ t) ∧ ((f < 20 ∧ nI ax = nI t) ∨ (20 ≤ f ∧ t = 3)) ∧ ((f < 20 ∧ nI (sg ax) = nI (sg t)) ∨ (20 ≤ f ∧ sg t = 0)) := by
  by_cases hf : f < 20
  · have h := htab ax (Or.inr (Or.inl rfl))
    have r := hsg.2.1 ax hax
    exact ⟨ax, by omega, by omega, h.1, h.2, Or.inl ⟨hf, rfl⟩, Or.inl ⟨hf, rfl⟩⟩
  · have h := htab 3 (Or.inl rfl)
    have r := hsg.1
    exact ⟨3, by omega, by omega, h.1, h.2, Or.inr ⟨by omega, rfl⟩, Or.inr ⟨by omega, r⟩⟩
theorem i_vc_end {k : Nat} {u : SX} {v : SY} (I : i_Rel k u v) (hk : k + 5 ≤ 2560) (v1 : Int32) (v2 : Int32) : wpX_end (fun r => wpY_end (fun r' v' => r' = r ∧ i_Rel (k + 5) u v') v v1 v2) u v1 v2 := by
  obtain ⟨pe, st, pl, hd, tr, ls, rm, ra, rc, tX, ls', rm', ra', rc', tY, ax, sg, tt, τ, oP, oH, sn, rfl, rfl, hpe, hax, hsg, hpk, htab⟩ := I
  have I' := fun oP oH sn => fb_mk (k := k + 5) (oP := oP) (oH := oH) (sn := sn) hpe hax hsg hpk htab
  unfold wpX_end
  rcases fw_ix v1 (n := 40) (by omega) with h1 | ⟨f, hf, rfl⟩
  · refine fx_out (L := 40) h1 (br_t rfl ?_)
    unfold wpY_end
    exact fy_frb h1 (br_f (by decide) ⟨rfl, I' _ _ _⟩)
  refine fx_in (L := 40) hf (by omega) (br_f (by decide) ?_)
  rcases fw_ix v2 (n := 64) (by omega) with h2 | ⟨h, hh, rfl⟩
  · refine fx_out (L := 64) h2 (br_t rfl ?_)
    unfold wpY_end
    exact fy_fr hf (br_t rfl (fy_byb h2 (br_f (by decide) ⟨rfl, I' _ _ _⟩)))
  obtain ⟨t, ht, ht', RX, RY, eX, eY⟩ := fb_from hsg hax htab f
  refine fx_in (L := 64) hh (by omega) (br_f (by decide) (fx_fate RX ht hpe hf hh eX ?_))
  unfold wpY_end
  exact fy_fr hf (br_t rfl (fy_by hh (br_t rfl (fy_follow RY ht' hpe hf hh eY (fun o1 o2 => ⟨rfl, I' _ _ _⟩)))))
theorem i_vc_arriving {k : Nat} {u : SX} {v : SY} (I : i_Rel k u v) (hk : k + 5 ≤ 2560) (v1 : Int32) (v2 : Int32) : wpX_arriving (fun r => wpY_arriving (fun r' v' => r' = r ∧ i_Rel (k + 5) u v') v v1 v2) u v1 v2 := by
  obtain ⟨pe, st, pl, hd, tr, ls, rm, ra, rc, tX, ls', rm', ra', rc', tY, ax, sg, tt, τ, oP, oH, sn, rfl, rfl, hpe, hax, hsg, hpk, htab⟩ := I
  have I' := fun oP oH sn => fb_mk (k := k + 5) (oP := oP) (oH := oH) (sn := sn) hpe hax hsg hpk htab
  unfold wpX_arriving
  rcases fw_ix v1 (n := 40) (by omega) with h1 | ⟨f, hf, rfl⟩
  · refine fx_out (L := 40) h1 (br_t rfl ?_)
    unfold wpY_arriving
    exact fy_frb h1 (br_f (by decide) ⟨rfl, I' _ _ _⟩)
  refine fx_in (L := 40) hf (by omega) (br_f (by decide) ?_)
  rcases fw_ix v2 (n := 20) (by omega) with h2 | ⟨p, hp20, rfl⟩
  · refine fx_out (L := 20) h2 (br_t rfl ?_)
    unfold wpY_arriving
    exact fy_fr hf (br_t rfl (fy_plb h2 (br_f (by decide) ⟨rfl, I' _ _ _⟩)))
  obtain ⟨t, ht, ht', RX, RY, eX, eY⟩ := fb_from hsg hax htab f
  refine fx_in (L := 20) hp20 (by omega) (br_f (by decide) (fx_cf (F := fun h => fb_fate (τ t) pe 16 (f % 20) h) (fun h hh P hP => fx_fate RX ht hpe hf hh eX hP) ?_))
  unfold wpY_arriving
  exact fy_fr hf (br_t rfl (fy_pl hp20 (br_t rfl (fy_cnt (F := fun h => fb_fate (τ t) pe 16 (f % 20) h) (S := fun h => fb_seen (τ t) pe 16 (f % 20) h 0) (fun h hh P oP oH sn hP => fy_follow RY ht' hpe hf hh eY hP) (fun oP oH sn => ⟨rfl, I' _ _ _⟩)))))
theorem i_vc_nextArriving {k : Nat} {u : SX} {v : SY} (I : i_Rel k u v) (hk : k + 5 ≤ 2560) (v1 : Int32) (v2 : Int32) (v3 : Int32) : wpX_nextArriving (fun r => wpY_nextArriving (fun r' v' => r' = r ∧ i_Rel (k + 5) u v') v v1 v2 v3) u v1 v2 v3 := by
  obtain ⟨pe, st, pl, hd, tr, ls, rm, ra, rc, tX, ls', rm', ra', rc', tY, ax, sg, tt, τ, oP, oH, sn, rfl, rfl, hpe, hax, hsg, hpk, htab⟩ := I
  have I' := fun oP oH sn => fb_mk (k := k + 5) (oP := oP) (oH := oH) (sn := sn) hpe hax hsg hpk htab
  unfold wpX_nextArriving
  rcases fw_ix v1 (n := 40) (by omega) with h1 | ⟨f, hf, rfl⟩
  · refine fx_out (L := 40) h1 (br_t rfl ?_)
    unfold wpY_nextArriving
    exact fy_frb h1 (br_f (by decide) ⟨rfl, I' _ _ _⟩)
  refine fx_in (L := 40) hf (by omega) (br_f (by decide) ?_)
  rcases fw_ix v2 (n := 20) (by omega) with h2 | ⟨p, hp20, rfl⟩
  · refine fx_out (L := 20) h2 (br_t rfl ?_)
    unfold wpY_nextArriving
    exact fy_fr hf (br_t rfl (fy_plb h2 (br_f (by decide) ⟨rfl, I' _ _ _⟩)))
  obtain ⟨t, ht, ht', RX, RY, eX, eY⟩ := fb_from hsg hax htab f
  refine fx_in (L := 20) hp20 (by omega) (br_f (by decide) ⟨65, fx_na (F := fun h => fb_fate (τ t) pe 16 (f % 20) h) (fun h hh P hP => fx_fate RX ht hpe hf hh eX hP) 64 0 rfl ?_ 65 (by omega)⟩)
  unfold wpY_nextArriving
  exact fy_fr hf (br_t rfl (fy_pl hp20 (br_t rfl ⟨65, fy_na (F := fun h => fb_fate (τ t) pe 16 (f % 20) h) (S := fun h => fb_seen (τ t) pe 16 (f % 20) h 0) (fun h hh P oP oH sn hP => fy_follow RY ht' hpe hf hh eY hP) 64 0 rfl (fun oP oH sn => ⟨rfl, I' _ _ _⟩) oP oH sn 65 (by omega)⟩)))
theorem i_vc_ending {k : Nat} {u : SX} {v : SY} (I : i_Rel k u v) (hk : k + 5 ≤ 2560) (v1 : Int32) (v2 : Int32) : wpX_ending (fun r => wpY_ending (fun r' v' => r' = r ∧ i_Rel (k + 5) u v') v v1 v2) u v1 v2 := by
  obtain ⟨pe, st, pl, hd, tr, ls, rm, ra, rc, tX, ls', rm', ra', rc', tY, ax, sg, tt, τ, oP, oH, sn, rfl, rfl, hpe, hax, hsg, hpk, htab⟩ := I
  have I' := fun oP oH sn => fb_mk (k := k + 5) (oP := oP) (oH := oH) (sn := sn) hpe hax hsg hpk htab
  unfold wpX_ending
  rcases fw_ix v1 (n := 40) (by omega) with h1 | ⟨f, hf, rfl⟩
  · refine fx_out (L := 40) h1 (br_t rfl ?_)
    unfold wpY_ending
    exact fy_frb h1 (br_f (by decide) ⟨rfl, I' _ _ _⟩)
  refine fx_in (L := 40) hf (by omega) (br_f (by decide) ?_)
  rcases fw_ix v2 (n := 2) (by omega) with h2 | ⟨j, hj, rfl⟩
  · refine fx_out (L := 2) h2 (br_t rfl ?_)
    unfold wpY_ending
    exact fy_fr hf (br_t rfl (fw_sb (L := 1) (by omega) h2 ⟨rfl, I' _ _ _⟩))
  obtain ⟨t, ht, ht', RX, RY, eX, eY⟩ := fb_from hsg hax htab f
  have hX : ∀ (w : Int32) (P : Int32 → Prop), P (nI (fb_cnt (fun h => decide (fb_fate (τ t) pe 16 (f % 20) h = w)) 64)) → wX_ending_30 P w (nI f) (nI ax) pe ls rm ra rc st pl hd tX tr := by
    intro w P hP
    unfold wX_ending_30
    exact fx_cf (F := fun h => fb_fate (τ t) pe 16 (f % 20) h) (fun h hh P hP => fx_fate RX ht hpe hf hh eX hP) hP
  have hY : ∀ w : Int32, 1 + nI j = w → wpY_ending (fun r' v' => r' = nI (fb_cnt (fun h => decide (fb_fate (τ t) pe 16 (f % 20) h = w)) 64) ∧ i_Rel (k + 5) (nI ax, pe, ls, rm, ra, rc, st, pl, hd, tX, tr) v') (nI (sg ax), oP, oH, sn, pe, ls', rm', ra', rc', st, pl, hd, tY, tr) (nI f) (nI j) := by
    intro w ew
    subst ew
    unfold wpY_ending
    exact fy_fr hf (br_t rfl (fw_sg (L := 1) (by omega) (by omega) (fy_cnt (F := fun h => fb_fate (τ t) pe 16 (f % 20) h) (S := fun h => fb_seen (τ t) pe 16 (f % 20) h 0) (fun h hh P oP oH sn hP => fy_follow RY ht' hpe hf hh eY hP) (fun oP oH sn => ⟨rfl, I' _ _ _⟩))))
  refine fx_in (L := 2) hj (by omega) (br_f (by decide) (pk_eq j 0 (fun e => hX 1 _ (hY 1 ?_)) (fun e => hX 2 _ (hY 2 ?_))))
  · rw [e]; rfl
  · rw [show j = 1 by omega]; rfl
theorem i_vc_visiting {k : Nat} {u : SX} {v : SY} (I : i_Rel k u v) (hk : k + 5 ≤ 2560) (v1 : Int32) (v2 : Int32) : wpX_visiting (fun r => wpY_visiting (fun r' v' => r' = r ∧ i_Rel (k + 5) u v') v v1 v2) u v1 v2 := by
  obtain ⟨pe, st, pl, hd, tr, ls, rm, ra, rc, tX, ls', rm', ra', rc', tY, ax, sg, tt, τ, oP, oH, sn, rfl, rfl, hpe, hax, hsg, hpk, htab⟩ := I
  have I' := fun oP oH sn => fb_mk (k := k + 5) (oP := oP) (oH := oH) (sn := sn) hpe hax hsg hpk htab
  unfold wpX_visiting
  rcases fw_ix v1 (n := 40) (by omega) with h1 | ⟨f, hf, rfl⟩
  · refine fx_out (L := 40) h1 (br_t rfl ?_)
    unfold wpY_visiting
    exact fy_frb h1 (br_f (by decide) ⟨rfl, I' _ _ _⟩)
  refine fx_in (L := 40) hf (by omega) (br_f (by decide) ?_)
  rcases fw_ix v2 (n := 5) (by omega) with h2 | ⟨s, hs, rfl⟩
  · refine fx_out (L := 5) h2 (br_t rfl ?_)
    unfold wpY_visiting
    exact fy_fr hf (br_t rfl (fw_sb (L := 4) (by omega) h2 ⟨rfl, I' _ _ _⟩))
  obtain ⟨t, ht, ht', RX, RY, eX, eY⟩ := fb_from hsg hax htab f
  refine fx_in (L := 5) hs (by omega) (br_f (by decide) ⟨65, fx_vi (G := fun h => fb_sees (τ t) pe s 16 (f % 20) h) (fun h hh P hP1 hP0 => fx_comes RX ht hs hpe hf hh eX hP1 hP0) ?_ 64 0 rfl 65 (by omega)⟩)
  unfold wpY_visiting
  refine fy_fr hf (br_t rfl (fw_sg (L := 4) (by omega) (by omega) ⟨65, fy_vi (F := fun h => fb_fate (τ t) pe 16 (f % 20) h) (S := fun h => fb_seen (τ t) pe 16 (f % 20) h 0) (G := fun h => fb_sees (τ t) pe s 16 (f % 20) h) hs (fun h hh P oP oH sn hP => fy_follow RY ht' hpe hf hh eY hP) (fun h hh => ?_) (fun oP oH sn => ⟨rfl, I' _ _ _⟩) 64 0 rfl oP oH sn 65 (by omega)⟩))
  have r := fb_seen_spec (fb_rep_ok RX) hpe hs 16 (f % 20) h 0 (by omega) hh (by omega)
  rw [Nat.zero_testBit, Bool.false_or] at r
  exact r
theorem i_vc_differing {k : Nat} {u : SX} {v : SY} (I : i_Rel k u v) (hk : k + 5 ≤ 2560) (v1 : Int32) : wpX_differing (fun r => wpY_differing (fun r' v' => r' = r ∧ i_Rel (k + 5) u v') v v1) u v1 := by
  obtain ⟨pe, st, pl, hd, tr, ls, rm, ra, rc, tX, ls', rm', ra', rc', tY, ax, sg, tt, τ, oP, oH, sn, rfl, rfl, hpe, hax, hsg, hpk, htab⟩ := I
  have I' := fun oP oH sn => fb_mk (k := k + 5) (oP := oP) (oH := oH) (sn := sn) hpe hax hsg hpk htab
  unfold wpX_differing
  rcases fw_ix v1 (n := 20) (by omega) with h1 | ⟨p, hp20, rfl⟩
  · refine fx_out (L := 20) h1 (br_t rfl ?_)
    unfold wpY_differing
    exact fy_plb h1 (br_f (by decide) ⟨rfl, I' _ _ _⟩)
  obtain ⟨t, ht, ht', RX, RY, eX, eY⟩ := fb_from hsg hax htab p
  obtain ⟨z, hz, hz', SX', SY', gX, gY⟩ := fb_from hsg hax htab (p + 20)
  have e20 : nI p + 20 = nI (p + 20) := nI_add p 20
  refine fx_in (L := 20) hp20 (by omega) (br_f (by decide) ⟨65, fx_di (F := fun h => fb_fate (τ t) pe 16 (p % 20) h) (G := fun h => fb_fate (τ z) pe 16 ((p + 20) % 20) h) (fun h hh P hP => fx_fate RX ht hpe (by omega) hh eX hP)
    (fun h hh P hP => by rw [e20]; exact fx_fate SX' hz hpe (by omega) hh gX hP) ?_ 64 0 rfl 65 (by omega)⟩)
  unfold wpY_differing
  exact fy_pl hp20 (br_t rfl ⟨65, fy_di (F := fun h => fb_fate (τ t) pe 16 (p % 20) h) (G := fun h => fb_fate (τ z) pe 16 ((p + 20) % 20) h) (S := fun h => fb_seen (τ t) pe 16 (p % 20) h 0) (S' := fun h => fb_seen (τ z) pe 16 ((p + 20) % 20) h 0)
    (fun h hh P oP oH sn hP => fy_follow RY ht' hpe (by omega) hh eY hP) (fun h hh P oP oH sn hP => by rw [e20]; exact fy_follow SY' hz' hpe (by omega) hh gY hP) (fun oP oH sn => ⟨rfl, I' _ _ _⟩) 64 0 rfl oP oH sn 65 (by omega)⟩)
theorem i_vc_deciding {k : Nat} {u : SX} {v : SY} (I : i_Rel k u v) (hk : k + 5 ≤ 2560) (v1 : Int32) (v2 : Int32) : wpX_deciding (fun r => wpY_deciding (fun r' => r' = r ∧ i_Rel (k + 5) u v) v v1 v2) u v1 v2 := by
  obtain ⟨pe, st, pl, hd, tr, ls, rm, ra, rc, tX, ls', rm', ra', rc', tY, ax, sg, tt, τ, oP, oH, sn, rfl, rfl, hpe, hax, hsg, hpk, htab⟩ := I
  have I' := fb_mk (k := k + 5) (oP := oP) (oH := oH) (sn := sn) hpe hax hsg hpk htab
  obtain ⟨RX, RY⟩ := fb_0R hsg htab
  rcases fw_ix v1 (n := 5) (by omega) with h1 | ⟨s, hs, rfl⟩
  · unfold wpX_deciding
    refine fx_sr_s h1 (br_t rfl ?_)
    unfold wpY_deciding
    exact fy_nr_s h1 (br_f (by decide) ⟨rfl, I'⟩)
  have h6 := (RX s hs).1
  rcases fw_ix v2 (n := (τ 3).1 s) (by omega) with h2 | ⟨i, hi, rfl⟩
  · unfold wpX_deciding
    refine fx_sr_i RX hs h2 (br_t rfl ?_)
    unfold wpY_deciding
    exact fy_nr_i RY hs h2 (br_f (by decide) ⟨rfl, I'⟩)
  have e6 : nI (5 * 3 + s) * 6 + nI i = nI (6 * (5 * 3 + s) + i) := by
    rw [show (6 : Int32) = nI 6 from rfl, pk_mul, nI_add]
    exact congrArg nI (by omega)
  unfold wpX_deciding
  refine fx_sr RX hs hi (br_f (by decide) (fx_lo 3 s rfl rfl (nm_r e6 ⟨65, fx_dg RX hs hi ?_ 64 0 rfl 65 (by omega)⟩)))
  unfold wpY_deciding
  exact fy_nr RY hs hi (br_t rfl ⟨65, fy_dg RY hs hi ⟨rfl, I'⟩ 64 0 rfl 65 (by omega)⟩)
theorem i_vc_needless {k : Nat} {u : SX} {v : SY} (I : i_Rel k u v) (hk : k + 5 ≤ 2560) (v1 : Int32) (v2 : Int32) : wpX_needless (fun r => wpY_needless (fun r' v' => r' = r ∧ i_Rel (k + 5) u v') v v1 v2) u v1 v2 := by
  obtain ⟨pe, st, pl, hd, tr, ls, rm, ra, rc, tX, ls', rm', ra', rc', tY, ax, sg, tt, τ, oP, oH, sn, rfl, rfl, hpe, hax, hsg, hpk, htab⟩ := I
  have I' := fun oP oH sn => fb_mk (k := k + 5) (oP := oP) (oH := oH) (sn := sn) hpe hax hsg hpk htab
  obtain ⟨RX, RY⟩ := fb_0R hsg htab
  rcases fw_ix v1 (n := 5) (by omega) with h1 | ⟨s, hs, rfl⟩
  · unfold wpX_needless
    refine fx_sr_s h1 (br_t rfl ?_)
    unfold wpY_needless
    exact fy_nr_s h1 (br_f (by decide) ⟨rfl, I' _ _ _⟩)
  have h6 := (RX s hs).1
  rcases fw_ix v2 (n := (τ 3).1 s) (by omega) with h2 | ⟨i, hi, rfl⟩
  · unfold wpX_needless
    refine fx_sr_i RX hs h2 (br_t rfl ?_)
    unfold wpY_needless
    exact fy_nr_i RY hs h2 (br_f (by decide) ⟨rfl, I' _ _ _⟩)
  have e6 : nI (5 * 3 + s) * 6 + nI i = nI (6 * (5 * 3 + s) + i) := by
    rw [show (6 : Int32) = nI 6 from rfl, pk_mul, nI_add]
    exact congrArg nI (by omega)
  unfold wpX_needless
  refine fx_sr RX hs hi (br_f (by decide) (fx_lo 3 s rfl rfl (nm_r e6 ⟨5, fx_n25 RX hs hi 4 0 rfl (fun hE => ?_) (fun hA => ?_) 5 (by omega)⟩)))
  · unfold wpY_needless
    obtain ⟨c, a, b, hc⟩ := hE
    exact fy_nr RY hs hi (br_t rfl ⟨257, fy_nl RY hs hi 256 0 rfl (fun _ _ _ => ⟨rfl, I' _ _ _⟩) (fun hA => absurd (hA c (by omega) b) hc) oP oH 257 (by omega)⟩)
  · unfold wpY_needless
    exact fy_nr RY hs hi (br_t rfl ⟨257, fy_nl RY hs hi 256 0 rfl (fun ⟨c, a, b, hc⟩ => absurd (hA c (by omega) b) hc) (fun _ _ _ => ⟨rfl, I' _ _ _⟩) oP oH 257 (by omega)⟩)
end
