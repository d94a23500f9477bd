/-! the relation's pieces: slots of kept tables, packets; a publishing; a tick -/
def fb_perm (sg : Nat → Nat) : Prop := sg 3 = 0 ∧ (∀ t, t < 3 → 1 ≤ sg t ∧ sg t ≤ 3) ∧ (∀ t t', t < 3 → t' < 3 → sg t = sg t' → t = t')
theorem fb_perm6 {sg : Nat → Nat} (h : fb_perm sg) : (sg 0 = 1 ∧ sg 1 = 2 ∧ sg 2 = 3) ∨ (sg 0 = 1 ∧ sg 1 = 3 ∧ sg 2 = 2) ∨ (sg 0 = 2 ∧ sg 1 = 1 ∧ sg 2 = 3) ∨
    (sg 0 = 2 ∧ sg 1 = 3 ∧ sg 2 = 1) ∨ (sg 0 = 3 ∧ sg 1 = 1 ∧ sg 2 = 2) ∨ (sg 0 = 3 ∧ sg 1 = 2 ∧ sg 2 = 1) := by
  obtain ⟨_, hr, hi⟩ := h
  have a0 := hr 0 (by omega)
  have a1 := hr 1 (by omega)
  have a2 := hr 2 (by omega)
  have b01 : ¬ sg 0 = sg 1 := fun e => absurd (hi 0 1 (by omega) (by omega) e) (by omega)
  have b02 : ¬ sg 0 = sg 2 := fun e => absurd (hi 0 2 (by omega) (by omega) e) (by omega)
  have b12 : ¬ sg 1 = sg 2 := fun e => absurd (hi 1 2 (by omega) (by omega) e) (by omega)
  omega
theorem fb_perm_on {sg : Nat → Nat} (h : fb_perm sg) {y : Nat} (h1 : 1 ≤ y) (h3 : y ≤ 3) : ∃ t, t < 3 ∧ sg t = y := by
  have h6 := fb_perm6 h
  have hc : sg 0 = y ∨ sg 1 = y ∨ sg 2 = y := by omega
  rcases hc with e | e | e
  · exact ⟨0, by omega, e⟩
  · exact ⟨1, by omega, e⟩
  · exact ⟨2, by omega, e⟩
theorem fb_cnt_perm {sg : Nat → Nat} (h : fb_perm sg) {f g : Nat → Bool} (e : ∀ t, t < 3 → g (sg t) = f t) : fb_cnt (fun t => g (t + 1)) 3 = fb_cnt f 3 := by
  have e0 := e 0 (by omega)
  have e1 := e 1 (by omega)
  have e2 := e 2 (by omega)
  simp only [fb_cnt, Nat.zero_add, Nat.reduceAdd]
  rcases fb_perm6 h with ⟨a, b, c⟩ | ⟨a, b, c⟩ | ⟨a, b, c⟩ | ⟨a, b, c⟩ | ⟨a, b, c⟩ | ⟨a, b, c⟩
  all_goals
    rw [a] at e0
    rw [b] at e1
    rw [c] at e2
    simp only [e0, e1, e2]
    try omega
def fb_px (ax : Nat) (u : Nat → Bool) : Option Nat := if u ax = true then fb_find (fun t => !(decide (t = ax) || u t)) 3 0 else some ax
def fb_pyl (ay : Nat) (w : Nat → Bool) : Nat → Nat
  | 0 => if w ay = true then 0 else ay
  | n + 1 => if n + 1 ≠ ay ∧ w (n + 1) = false then n + 1 else fb_pyl ay w n
theorem fb_px_some {ax x : Nat} {u : Nat → Bool} (ha : ax < 3) (h : fb_px ax u = some x) : x < 3 ∧ u x = false := by
  unfold fb_px at h
  by_cases hu : u ax = true
  · rw [if_pos hu] at h
    have := fb_find_some h
    refine ⟨by omega, ?_⟩
    have hb := this.2.2
    simp only [Bool.not_eq_true', Bool.or_eq_false_iff] at hb
    exact hb.2
  · rw [if_neg hu] at h
    cases h
    exact ⟨ha, Bool.eq_false_iff.mpr hu⟩
theorem fb_px_none {ax : Nat} {u : Nat → Bool} (h : fb_px ax u = none) : ∀ t, t < 3 → u t = true := by
  unfold fb_px at h
  by_cases hu : u ax = true
  · rw [if_pos hu] at h
    intro t ht
    have hb := fb_find_none h t (by omega) (by omega)
    simp only [Bool.not_eq_false', Bool.or_eq_true, decide_eq_true_eq] at hb
    rcases hb with e | e
    · rw [e]; exact hu
    · exact e
  · rw [if_neg hu] at h
    cases h
theorem fb_pyl_c {ay : Nat} {w : Nat → Bool} (h1 : 1 ≤ ay) (h3 : ay ≤ 3) : ∀ n, n ≤ 3 → (fb_pyl ay w n = 0 ∧ w ay = true ∧ ∀ y, 1 ≤ y → y ≤ n → w y = true) ∨ (1 ≤ fb_pyl ay w n ∧ fb_pyl ay w n ≤ 3 ∧ w (fb_pyl ay w n) = false) := by
  intro n
  induction n with
  | zero =>
    intro _
    by_cases hw : w ay = true
    · refine Or.inl ⟨?_, hw, fun y h1 h2 => by omega⟩
      unfold fb_pyl
      exact if_pos hw
    · have e : fb_pyl ay w 0 = ay := by
        unfold fb_pyl
        exact if_neg hw
      rw [e]
      exact Or.inr ⟨h1, h3, Bool.eq_false_iff.mpr hw⟩
  | succ n ih =>
    intro hn
    by_cases hc : n + 1 ≠ ay ∧ w (n + 1) = false
    · have e : fb_pyl ay w (n + 1) = n + 1 := by
        rw [fb_pyl, if_pos hc]
      rw [e]
      exact Or.inr ⟨by omega, hn, hc.2⟩
    · have e : fb_pyl ay w (n + 1) = fb_pyl ay w n := by
        rw [fb_pyl, if_neg hc]
      rw [e]
      rcases ih (by omega) with ⟨a, b, c⟩ | r
      · refine Or.inl ⟨a, b, fun y hy1 hy2 => ?_⟩
        by_cases hy : y = n + 1
        · subst hy
          by_cases ea : n + 1 = ay
          · rw [ea]; exact b
          · cases hw : w (n + 1) with
            | true => rfl
            | false => exact absurd ⟨ea, hw⟩ hc
        · exact c y hy1 (by omega)
      · exact Or.inr r
theorem fb_pub {ax : Nat} {u w : Nat → Bool} {sg : Nat → Nat} (hp : fb_perm sg) (ha : ax < 3) (e : ∀ t, t < 3 → w (sg t) = u t) :
    (fb_px ax u = none ∧ fb_pyl (sg ax) w 3 = 0) ∨ ∃ x y, fb_px ax u = some x ∧ fb_pyl (sg ax) w 3 = y ∧ x < 3 ∧ u x = false ∧ 1 ≤ y ∧ y ≤ 3 ∧ w y = false := by
  have hr := hp.2.1 ax ha
  cases hx : fb_px ax u with
  | none =>
    refine Or.inl ⟨rfl, ?_⟩
    have hn := fb_px_none hx
    rcases fb_pyl_c (w := w) hr.1 hr.2 3 (by omega) with r | r
    · exact r.1
    · obtain ⟨t, ht, et⟩ := fb_perm_on hp r.1 r.2.1
      have := e t ht
      rw [et, r.2.2, hn t ht] at this
      cases this
  | some x =>
    have hs := fb_px_some ha hx
    refine Or.inr ⟨x, _, rfl, rfl, hs.1, hs.2, ?_⟩
    rcases fb_pyl_c (w := w) hr.1 hr.2 3 (by omega) with r | r
    · have hb := hp.2.1 x hs.1
      have := e x hs.1
      rw [r.2.2 _ hb.1 hb.2, hs.2] at this
      cases this
    · exact r
def fb_sg (sg : Nat → Nat) (x y : Nat) : Nat → Nat := fun t => if t = x then y else if sg t = y then sg x else sg t
theorem fb_sg_perm {sg : Nat → Nat} {x y : Nat} (h : fb_perm sg) (hx : x < 3) (h1 : 1 ≤ y) (h3 : y ≤ 3) : fb_perm (fb_sg sg x y) := by
  have h0 := h.1
  have hr := h.2.1
  have hi := h.2.2
  have hxr := hr x hx
  refine ⟨?_, ?_, ?_⟩
  · simp only [fb_sg]
    rw [if_neg (by omega), if_neg (by omega)]
    exact h0
  · intro t ht
    have := hr t ht
    simp only [fb_sg]
    repeat' split
    all_goals omega
  · intro t t' ht ht' e
    have a := hi t t' ht ht'
    have b := hi t x ht hx
    have c := hi t' x ht' hx
    simp only [fb_sg] at e
    by_cases e1 : t = x
    · by_cases e2 : t' = x
      · omega
      · rw [if_pos e1, if_neg e2] at e
        by_cases e3 : sg t' = y
        · rw [if_pos e3] at e
          exact absurd (c (by omega)) e2
        · rw [if_neg e3] at e
          omega
    · by_cases e2 : t' = x
      · rw [if_neg e1, if_pos e2] at e
        by_cases e3 : sg t = y
        · rw [if_pos e3] at e
          exact absurd (b (by omega)) e1
        · rw [if_neg e3] at e
          omega
      · rw [if_neg e1, if_neg e2] at e
        by_cases e3 : sg t = y
        · by_cases e4 : sg t' = y
          · exact a (by omega)
          · rw [if_pos e3, if_neg e4] at e
            exact absurd (c (by omega)) e2
        · by_cases e4 : sg t' = y
          · rw [if_neg e3, if_pos e4] at e
            exact absurd (b (by omega)) e1
          · rw [if_neg e3, if_neg e4] at e
            exact a e
def fb_usR (st tb : Nat → Int32) (x : Int32) : Bool := (fb_find (fun k => decide (st k = 1 ∧ tb k = x)) 8 0).isSome
def fb_pkok (st pl hd tr tX tY : Nat → Int32) (tt sg : Nat → Nat) : Prop := ∀ k, k < 8 → st k = 1 →
  (∃ p, p < 20 ∧ pl k = nI p) ∧ (∃ h, h < 64 ∧ hd k = nI h) ∧ (∃ m, m < 16 ∧ tr k = nI m) ∧ tt k < 3 ∧ tX k = nI (tt k) ∧ tY k = nI (sg (tt k))
def fb_used (st : Nat → Int32) (tt : Nat → Nat) (t : Nat) : Prop := ∃ k, k < 8 ∧ st k = 1 ∧ tt k = t
def fb_kept (st : Nat → Int32) (tt : Nat → Nat) (ax t : Nat) : Prop := t = 3 ∨ t = ax ∨ fb_used st tt t
theorem fb_us_sg {st pl hd tr tX tY : Nat → Int32} {tt sg : Nat → Nat} (h : fb_pkok st pl hd tr tX tY tt sg) (hp : fb_perm sg) {t : Nat} (ht : t < 3) : fb_usR st tY (nI (sg t)) = fb_usR st tX (nI t) := by
  unfold fb_usR
  refine congrArg Option.isSome (fb_find_congr fun k _ hk => ?_)
  by_cases h1 : st k = 1
  · obtain ⟨_, _, _, h3, eX, eY⟩ := h k (by omega) h1
    have r1 := hp.2.1 t ht
    have r2 := hp.2.1 (tt k) h3
    show decide (st k = 1 ∧ tY k = nI (sg t)) = decide (st k = 1 ∧ tX k = nI t)
    rw [eX, eY]
    refine decide_eq_decide.mpr (and_congr_right fun _ => ?_)
    rw [nI_eq (by omega) (by omega), nI_eq (by omega) (by omega)]
    exact ⟨fun e => hp.2.2 _ _ h3 ht e, fun e => by rw [e]⟩
  · exact decide_eq_decide.mpr ⟨fun z => absurd z.1 h1, fun z => absurd z.1 h1⟩
theorem fb_us_used {st pl hd tr tX tY : Nat → Int32} {tt sg : Nat → Nat} (h : fb_pkok st pl hd tr tX tY tt sg) {t : Nat} (hu : fb_used st tt t) : t < 3 ∧ fb_usR st tX (nI t) = true := by
  obtain ⟨k, hk, h1, rfl⟩ := hu
  obtain ⟨_, _, _, h3, eX, _⟩ := h k hk h1
  refine ⟨h3, ?_⟩
  unfold fb_usR
  exact fb_find_ex (j := k) (by omega) (by omega) (decide_eq_true ⟨h1, eX⟩)
/-- what binds the two states -/
def fb_tabs (ls rm ra rc ls' rm' ra' rc' st : Nat → Int32) (ax : Nat) (sg tt : Nat → Nat) (τ : Nat → fb_Tab) : Prop :=
  ∀ t, fb_kept st tt ax t → fb_rep ls rm ra rc t (τ t) ∧ fb_rep ls' rm' ra' rc' (sg t) (τ t)
abbrev fb_Q : Type := (Nat → Int32) × (Nat → Int32) × (Nat → Int32) × (Nat → Int32)
def fb_pk (τ : Nat → fb_Tab) (pe : Nat → Int32) (tt : Nat → Nat) (k : Nat) (q : fb_Q) : fb_Q :=
  match fb_go (τ (tt k)) (q.2.1 k).toNatClampNeg (q.2.2.1 k).toNatClampNeg none with
  | none => (upd q.1 k 3, q.2.1, q.2.2.1, upd q.2.2.2 k (q.2.2.2 k + 1))
  | some x => if pe x.1 = -1 then (upd q.1 k 2, upd q.2.1 k (nI x.1), upd q.2.2.1 k (nI x.2), upd q.2.2.2 k (q.2.2.2 k + 1))
    else (if q.2.2.2 k = 15 then upd q.1 k 4 else q.1, upd q.2.1 k (pe x.1), upd q.2.2.1 k (nI x.2), upd q.2.2.2 k (q.2.2.2 k + 1))
def fb_tk (τ : Nat → fb_Tab) (pe : Nat → Int32) (tt : Nat → Nat) : Nat → fb_Q → fb_Q
  | 0, q => q
  | n + 1, q => if (fb_tk τ pe tt n q).1 n = 1 then fb_pk τ pe tt n (fb_tk τ pe tt n q) else fb_tk τ pe tt n q
theorem fb_pk_n {τ : Nat → fb_Tab} {pe : Nat → Int32} {tt : Nat → Nat} {k : Nat} {q : fb_Q} (hg : fb_go (τ (tt k)) (q.2.1 k).toNatClampNeg (q.2.2.1 k).toNatClampNeg none = none) :
    fb_pk τ pe tt k q = (upd q.1 k 3, q.2.1, q.2.2.1, upd q.2.2.2 k (q.2.2.2 k + 1)) := by
  unfold fb_pk
  rw [hg]
theorem fb_pk_d {τ : Nat → fb_Tab} {pe : Nat → Int32} {tt : Nat → Nat} {k : Nat} {q : fb_Q} {x : Nat × Nat} (hg : fb_go (τ (tt k)) (q.2.1 k).toNatClampNeg (q.2.2.1 k).toNatClampNeg none = some x) (hn : pe x.1 = -1) :
    fb_pk τ pe tt k q = (upd q.1 k 2, upd q.2.1 k (nI x.1), upd q.2.2.1 k (nI x.2), upd q.2.2.2 k (q.2.2.2 k + 1)) := by
  unfold fb_pk
  rw [hg]
  exact if_pos hn
theorem fb_pk_l {τ : Nat → fb_Tab} {pe : Nat → Int32} {tt : Nat → Nat} {k : Nat} {q : fb_Q} {x : Nat × Nat} (hg : fb_go (τ (tt k)) (q.2.1 k).toNatClampNeg (q.2.2.1 k).toNatClampNeg none = some x) (hn : ¬ pe x.1 = -1) (hm : q.2.2.2 k = 15) :
    fb_pk τ pe tt k q = (upd q.1 k 4, upd q.2.1 k (pe x.1), upd q.2.2.1 k (nI x.2), upd q.2.2.2 k (q.2.2.2 k + 1)) := by
  unfold fb_pk
  rw [hg]
  refine (if_neg hn).trans ?_
  rw [if_pos hm]
theorem fb_pk_g {τ : Nat → fb_Tab} {pe : Nat → Int32} {tt : Nat → Nat} {k : Nat} {q : fb_Q} {x : Nat × Nat} (hg : fb_go (τ (tt k)) (q.2.1 k).toNatClampNeg (q.2.2.1 k).toNatClampNeg none = some x) (hn : ¬ pe x.1 = -1) (hm : ¬ q.2.2.2 k = 15) :
    fb_pk τ pe tt k q = (q.1, upd q.2.1 k (pe x.1), upd q.2.2.1 k (nI x.2), upd q.2.2.2 k (q.2.2.2 k + 1)) := by
  unfold fb_pk
  rw [hg]
  refine (if_neg hn).trans ?_
  rw [if_neg hm]
theorem fb_pk_fr (τ : Nat → fb_Tab) (pe : Nat → Int32) (tt : Nat → Nat) {k j : Nat} (q : fb_Q) (h : j ≠ k) :
    (fb_pk τ pe tt k q).1 j = q.1 j ∧ (fb_pk τ pe tt k q).2.1 j = q.2.1 j ∧ (fb_pk τ pe tt k q).2.2.1 j = q.2.2.1 j ∧ (fb_pk τ pe tt k q).2.2.2 j = q.2.2.2 j := by
  cases hg : fb_go (τ (tt k)) (q.2.1 k).toNatClampNeg (q.2.2.1 k).toNatClampNeg none with
  | none =>
    rw [fb_pk_n hg]
    exact ⟨pk_un h, rfl, rfl, pk_un h⟩
  | some x =>
    by_cases hn : pe x.1 = -1
    · rw [fb_pk_d hg hn]
      exact ⟨pk_un h, pk_un h, pk_un h, pk_un h⟩
    · by_cases hm : q.2.2.2 k = 15
      · rw [fb_pk_l hg hn hm]
        exact ⟨pk_un h, pk_un h, pk_un h, pk_un h⟩
      · rw [fb_pk_g hg hn hm]
        exact ⟨rfl, pk_un h, pk_un h, pk_un h⟩
theorem fb_tk_fr (τ : Nat → fb_Tab) (pe : Nat → Int32) (tt : Nat → Nat) (q : fb_Q) : ∀ {n j : Nat}, n ≤ j → (fb_tk τ pe tt n q).1 j = q.1 j := by
  intro n
  induction n with
  | zero => intro j _; rfl
  | succ n ih =>
    intro j hj
    rw [fb_tk]
    split
    · rw [(fb_pk_fr τ pe tt _ (by omega)).1]
      exact ih (by omega)
    · exact ih (by omega)
theorem fb_tk_st (τ : Nat → fb_Tab) (pe : Nat → Int32) (tt : Nat → Nat) (q : fb_Q) {n j : Nat} (h : j < n) : (fb_tk τ pe tt (n + 1) q).1 j = (fb_tk τ pe tt n q).1 j := by
  rw [fb_tk]
  split
  · exact (fb_pk_fr τ pe tt _ (by omega)).1
  · rfl
theorem fb_pk_st {τ : Nat → fb_Tab} {pe : Nat → Int32} {tt : Nat → Nat} {k j : Nat} {q : fb_Q} (h1 : q.1 k = 1) (h : (fb_pk τ pe tt k q).1 j = 1) : q.1 j = 1 := by
  by_cases e : j = k
  · rw [e]; exact h1
  · rw [(fb_pk_fr τ pe tt q e).1] at h
    exact h
theorem fb_pk_ok {τ : Nat → fb_Tab} {pe tX tY : Nat → Int32} {tt sg : Nat → Nat} {k : Nat} {q : fb_Q} (hk : k < 8) (h1 : q.1 k = 1) (hpe : fb_pok pe) (ok : fb_ok (τ (tt k)))
    (h : fb_pkok q.1 q.2.1 q.2.2.1 q.2.2.2 tX tY tt sg) :
    fb_pkok (fb_pk τ pe tt k q).1 (fb_pk τ pe tt k q).2.1 (fb_pk τ pe tt k q).2.2.1 (fb_pk τ pe tt k q).2.2.2 tX tY tt sg := by
  intro j hj hst
  by_cases e : j = k
  · subst e
    obtain ⟨⟨p, hp, ep⟩, ⟨hh, hh64, eh⟩, ⟨m, hm, em⟩, rest⟩ := h j hj h1
    cases hg : fb_go (τ (tt j)) (q.2.1 j).toNatClampNeg (q.2.2.1 j).toNatClampNeg none with
    | none =>
      rw [fb_pk_n hg] at hst
      exact absurd (pk_us.symm.trans hst) (by decide)
    | some x =>
      have hx : x.1 < 20 ∧ x.2 < 64 := by
        rw [ep, eh, nI_clamp (by omega), nI_clamp (by omega)] at hg
        exact fb_go_lt ok hp hh64 hg
      by_cases hn : pe x.1 = -1
      · rw [fb_pk_d hg hn] at hst
        exact absurd (pk_us.symm.trans hst) (by decide)
      · by_cases h15 : q.2.2.2 j = 15
        · rw [fb_pk_l hg hn h15] at hst
          exact absurd (pk_us.symm.trans hst) (by decide)
        · rw [fb_pk_g hg hn h15]
          dsimp only
          rw [pk_us, pk_us, pk_us]
          refine ⟨fb_pe_on hpe hx.1 hn, ⟨x.2, hx.2, rfl⟩, ⟨m + 1, ?_, ?_⟩, rest⟩
          · have : m ≠ 15 := fun e => h15 (by rw [em, e]; rfl)
            omega
          · rw [em, nI_1]
  · obtain ⟨f1, f2, f3, f4⟩ := fb_pk_fr τ pe tt q e
    rw [f1] at hst
    rw [f2, f3, f4]
    exact h j hj hst
theorem fb_tk_ok {τ : Nat → fb_Tab} {pe tX tY : Nat → Int32} {tt sg : Nat → Nat} {q : fb_Q} (hpe : fb_pok pe) (ok : ∀ k, k < 8 → q.1 k = 1 → fb_ok (τ (tt k)))
    (h : fb_pkok q.1 q.2.1 q.2.2.1 q.2.2.2 tX tY tt sg) : ∀ n, n ≤ 8 →
    fb_pkok (fb_tk τ pe tt n q).1 (fb_tk τ pe tt n q).2.1 (fb_tk τ pe tt n q).2.2.1 (fb_tk τ pe tt n q).2.2.2 tX tY tt sg ∧ ∀ j, (fb_tk τ pe tt n q).1 j = 1 → q.1 j = 1 := by
  intro n
  induction n with
  | zero => intro _; exact ⟨h, fun j hj => hj⟩
  | succ n ih =>
    intro hn
    obtain ⟨a, b⟩ := ih (by omega)
    rw [fb_tk]
    by_cases h1 : (fb_tk τ pe tt n q).1 n = 1
    · rw [if_pos h1]
      exact ⟨fb_pk_ok (by omega) h1 hpe (ok n (by omega) (b n h1)) a, fun j hj => b j (fb_pk_st h1 hj)⟩
    · rw [if_neg h1]
      exact ⟨a, b⟩
