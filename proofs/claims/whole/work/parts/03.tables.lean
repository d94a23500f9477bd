/-! tables in arrays: what a row of rules holds, copying, shifting -/
def fb_row (f : Nat → Int32) (b n : Nat) (g : Nat → Nat) (B : Nat) : Prop := ∀ i, i < n → f (b + i) = nI (g i) ∧ g i < B
def fb_rep (ls rm ra rc : Nat → Int32) (t : Nat) (T : fb_Tab) : Prop := ∀ s, s < 5 → T.1 s ≤ 6 ∧ ls (5 * t + s) = nI (T.1 s) ∧
  fb_row rm (6 * (5 * t + s)) (T.1 s) (T.2.1 s) 4096 ∧ fb_row ra (6 * (5 * t + s)) (T.1 s) (T.2.2.1 s) 6 ∧ fb_row rc (6 * (5 * t + s)) (T.1 s) (T.2.2.2 s) 4096
theorem fb_rep_ok {ls rm ra rc : Nat → Int32} {t : Nat} {T : fb_Tab} (h : fb_rep ls rm ra rc t T) : fb_ok T := by
  intro s hs
  obtain ⟨h6, _, hm, ha, hc⟩ := h s hs
  exact ⟨h6, fun i hi => ⟨(hm i hi).2, (ha i hi).2, (hc i hi).2⟩⟩
theorem fb_row_fr {f f' : Nat → Int32} {b n B : Nat} {g : Nat → Nat} (h : fb_row f b n g B) (e : ∀ q, b ≤ q → q < b + n → f' q = f q) : fb_row f' b n g B := by
  intro i hi
  rw [e (b + i) (by omega) (by omega)]
  exact h i hi
theorem fb_rep_fr {ls rm ra rc ls' rm' ra' rc' : Nat → Int32} {t : Nat} {T : fb_Tab} (h : fb_rep ls rm ra rc t T)
    (e0 : ∀ q, 5 * t ≤ q → q < 5 * t + 5 → ls' q = ls q) (e1 : ∀ q, 30 * t ≤ q → q < 30 * t + 30 → rm' q = rm q)
    (e2 : ∀ q, 30 * t ≤ q → q < 30 * t + 30 → ra' q = ra q) (e3 : ∀ q, 30 * t ≤ q → q < 30 * t + 30 → rc' q = rc q) : fb_rep ls' rm' ra' rc' t T := by
  intro s hs
  obtain ⟨h6, hl, hm, ha, hc⟩ := h s hs
  refine ⟨h6, ?_, fb_row_fr hm ?_, fb_row_fr ha ?_, fb_row_fr hc ?_⟩
  · rw [e0 _ (by omega) (by omega)]; exact hl
  · exact fun q h1 h2 => e1 q (by omega) (by omega)
  · exact fun q h1 h2 => e2 q (by omega) (by omega)
  · exact fun q h1 h2 => e3 q (by omega) (by omega)
/-- n cells from a on, copied to b on -/
def fb_cp (a b : Nat) (f : Nat → Int32) (n : Nat) : Nat → Int32 := fun q => if b ≤ q ∧ q < b + n then f (a + (q - b)) else f q
theorem fb_cp_0 (a b : Nat) (f : Nat → Int32) : fb_cp a b f 0 = f := by
  funext q
  unfold fb_cp
  exact if_neg (by omega)
theorem fb_cp_src {a b w n : Nat} (f : Nat → Int32) (h : a + w ≤ b ∨ b + w ≤ a) (hn : n < w) : fb_cp a b f n (a + n) = f (a + n) := by
  unfold fb_cp
  exact if_neg (by omega)
theorem fb_cp_s {a b w n : Nat} (f : Nat → Int32) (h : a + w ≤ b ∨ b + w ≤ a) (hn : n < w) : upd (fb_cp a b f n) (b + n) (fb_cp a b f n (a + n)) = fb_cp a b f (n + 1) := by
  rw [fb_cp_src f h hn]
  funext q
  simp only [upd, fb_cp]
  by_cases hq : q = b + n
  · rw [if_pos hq, if_pos (by omega)]
    exact congrArg f (by omega)
  · rw [if_neg hq]
    by_cases h2 : b ≤ q ∧ q < b + n
    · rw [if_pos h2, if_pos (by omega)]
    · rw [if_neg h2, if_neg (by omega)]
theorem fb_cp_in {a b n q : Nat} (f : Nat → Int32) (h : q < n) : fb_cp a b f n (b + q) = f (a + q) := by
  simp only [fb_cp]
  rw [if_pos (by omega)]
  exact congrArg f (by omega)
theorem fb_cp_out {a b n q : Nat} (f : Nat → Int32) (h : q < b ∨ b + n ≤ q) : fb_cp a b f n q = f q := by
  unfold fb_cp
  exact if_neg (by omega)
theorem fb_row_cp {f : Nat → Int32} {a b n B s : Nat} {g : Nat → Nat} (hs : s < 5) (hn : n ≤ 6) (h : fb_row f (6 * (5 * a + s)) n g B) :
    fb_row (fb_cp (30 * a) (30 * b) f 30) (6 * (5 * b + s)) n g B := by
  intro i hi
  have e : 6 * (5 * b + s) + i = 30 * b + (6 * s + i) := by omega
  rw [e, fb_cp_in f (by omega), show 30 * a + (6 * s + i) = 6 * (5 * a + s) + i by omega]
  exact h i hi
theorem fb_rep_cp {ls rm ra rc : Nat → Int32} {a b : Nat} {T : fb_Tab} (h : fb_rep ls rm ra rc a T) :
    fb_rep (fb_cp (5 * a) (5 * b) ls 5) (fb_cp (30 * a) (30 * b) rm 30) (fb_cp (30 * a) (30 * b) ra 30) (fb_cp (30 * a) (30 * b) rc 30) b T := by
  intro s hs
  obtain ⟨h6, hl, hm, ha, hc⟩ := h s hs
  refine ⟨h6, ?_, fb_row_cp hs h6 hm, fb_row_cp hs h6 ha, fb_row_cp hs h6 hc⟩
  rw [fb_cp_in ls hs]
  exact hl
theorem fb_rep_cpn {ls rm ra rc : Nat → Int32} {a b t : Nat} {T : fb_Tab} (hne : t ≠ b) (h : fb_rep ls rm ra rc t T) :
    fb_rep (fb_cp (5 * a) (5 * b) ls 5) (fb_cp (30 * a) (30 * b) rm 30) (fb_cp (30 * a) (30 * b) ra 30) (fb_cp (30 * a) (30 * b) rc 30) t T := by
  refine fb_rep_fr h ?_ ?_ ?_ ?_
  all_goals exact fun q h1 h2 => fb_cp_out _ (by omega)
/-- the cells from I up to N take what stood one above; those from N, without it, down from I what stood one below -/
def fb_up (I N : Nat) (f : Nat → Int32) : Nat → Int32 := fun q => if I ≤ q ∧ q < N then f (q + 1) else f q
def fb_dn (N I : Nat) (f : Nat → Int32) : Nat → Int32 := fun q => if N < q ∧ q ≤ I then f (q - 1) else f q
theorem fb_up_0 {I N : Nat} (h : N ≤ I) (f : Nat → Int32) : fb_up I N f = f := by
  funext q
  unfold fb_up
  exact if_neg (by omega)
theorem fb_dn_0 {I N : Nat} (h : I ≤ N) (f : Nat → Int32) : fb_dn N I f = f := by
  funext q
  unfold fb_dn
  exact if_neg (by omega)
theorem fb_up_v (I N : Nat) (f : Nat → Int32) : fb_up I N f (N + 1) = f (N + 1) := if_neg (by omega)
theorem fb_dn_v (N I : Nat) (f : Nat → Int32) : fb_dn (N + 1) I f N = f N := if_neg (by omega)
theorem fb_up_s {I N : Nat} (h : I ≤ N) (f : Nat → Int32) : upd (fb_up I N f) N (fb_up I N f (N + 1)) = fb_up I (N + 1) f := by
  rw [fb_up_v]
  funext q
  simp only [upd, fb_up]
  by_cases hq : q = N
  · rw [if_pos hq, if_pos (by omega)]
    exact congrArg f (by omega)
  · rw [if_neg hq]
    by_cases h2 : I ≤ q ∧ q < N
    · rw [if_pos h2, if_pos (by omega)]
    · rw [if_neg h2, if_neg (by omega)]
theorem fb_dn_s {I N : Nat} (h : N + 1 ≤ I) (f : Nat → Int32) : upd (fb_dn (N + 1) I f) (N + 1) (fb_dn (N + 1) I f N) = fb_dn N I f := by
  rw [fb_dn_v]
  funext q
  simp only [upd, fb_dn]
  by_cases hq : q = N + 1
  · rw [if_pos hq, if_pos (by omega)]
    exact congrArg f (by omega)
  · rw [if_neg hq]
    by_cases h2 : N + 1 < q ∧ q ≤ I
    · rw [if_pos h2, if_pos (by omega)]
    · rw [if_neg h2, if_neg (by omega)]
def fb_mvi (i j k : Nat) : Nat := if k = j then i else if i ≤ k ∧ k < j then k + 1 else if j < k ∧ k ≤ i then k - 1 else k
def fb_dpi (i k : Nat) : Nat := if i ≤ k then k + 1 else k
theorem fb_mvi_lt {i j k n : Nat} (hi : i < n) (hj : j < n) (hk : k < n) : fb_mvi i j k < n := by
  unfold fb_mvi
  repeat' split
  all_goals omega
theorem fb_cellX (f : Nat → Int32) (b i j k : Nat) : upd (fb_dn (b + j) (b + i) (fb_up (b + i) (b + j) f)) (b + j) (f (b + i)) (b + k) = f (b + fb_mvi i j k) := by
  simp only [upd, fb_dn, fb_up, fb_mvi]
  repeat' split
  all_goals exact congrArg f (by omega)
theorem fb_cellY (f : Nat → Int32) {b n i j k L : Nat} (hL : L + 1 = b + n) (hi : i < n) (hj : j < n) (hk : k < n) : upd (fb_dn (b + j) L (fb_up (b + i) L f)) (b + j) (f (b + i)) (b + k) = f (b + fb_mvi i j k) := by
  simp only [upd, fb_dn, fb_up, fb_mvi]
  repeat' split
  all_goals exact congrArg f (by omega)
theorem fb_cellU (f : Nat → Int32) {b n i k L : Nat} (hL : L + 1 = b + n) (hk : k + 1 < n) : fb_up (b + i) L f (b + k) = f (b + fb_dpi i k) := by
  simp only [fb_up, fb_dpi]
  repeat' split
  all_goals exact congrArg f (by omega)
theorem fb_cellD (f : Nat → Int32) {b n i k : Nat} (hi : i < n) (hk : k + 1 < n) : upd (fb_dn (b + (n - 1)) (b + i) (fb_up (b + i) (b + (n - 1)) f)) (b + (n - 1)) (f (b + i)) (b + k) = f (b + fb_dpi i k) := by
  rw [fb_cellX]
  refine congrArg f ?_
  simp only [fb_mvi, fb_dpi]
  repeat' split
  all_goals omega
theorem fb_frX (f : Nat → Int32) {b i j q : Nat} (hi : i < 6) (hj : j < 6) (hq : q < b ∨ b + 6 ≤ q) (x : Int32) : upd (fb_dn (b + j) (b + i) (fb_up (b + i) (b + j) f)) (b + j) x q = f q := by
  simp only [upd, fb_dn, fb_up]
  repeat' split
  all_goals first | exact congrArg f (by omega) | (exfalso; omega)
theorem fb_frY (f : Nat → Int32) {b i j q L : Nat} (hL : L < b + 6) (hj : j < 6) (hq : q < b ∨ b + 6 ≤ q) (x : Int32) : upd (fb_dn (b + j) L (fb_up (b + i) L f)) (b + j) x q = f q := by
  simp only [upd, fb_dn, fb_up]
  repeat' split
  all_goals first | exact congrArg f (by omega) | (exfalso; omega)
theorem fb_frU (f : Nat → Int32) {b i q L : Nat} (hL : L < b + 6) (hq : q < b ∨ b + 6 ≤ q) : fb_up (b + i) L f q = f q := by
  simp only [fb_up]
  repeat' split
  all_goals first | exact congrArg f (by omega) | (exfalso; omega)
/-- a table with switch s's list put in its place -/
def fb_tset (T : fb_Tab) (s n : Nat) (gm ga gc : Nat → Nat) : fb_Tab :=
  (fun x => if x = s then n else T.1 x, fun x => if x = s then gm else T.2.1 x, fun x => if x = s then ga else T.2.2.1 x, fun x => if x = s then gc else T.2.2.2 x)
theorem fb_rep_set {ls rm ra rc ls' rm' ra' rc' : Nat → Int32} {t s n : Nat} {T : fb_Tab} {gm ga gc : Nat → Nat} (h : fb_rep ls rm ra rc t T) (hn : n ≤ 6)
    (hs : ls' (5 * t + s) = nI n) (fl : ∀ q, q ≠ 5 * t + s → ls' q = ls q)
    (r1 : fb_row rm' (6 * (5 * t + s)) n gm 4096) (r2 : fb_row ra' (6 * (5 * t + s)) n ga 6) (r3 : fb_row rc' (6 * (5 * t + s)) n gc 4096)
    (f1 : ∀ q, (q < 6 * (5 * t + s) ∨ 6 * (5 * t + s) + 6 ≤ q) → rm' q = rm q) (f2 : ∀ q, (q < 6 * (5 * t + s) ∨ 6 * (5 * t + s) + 6 ≤ q) → ra' q = ra q)
    (f3 : ∀ q, (q < 6 * (5 * t + s) ∨ 6 * (5 * t + s) + 6 ≤ q) → rc' q = rc q) : fb_rep ls' rm' ra' rc' t (fb_tset T s n gm ga gc) := by
  intro x hx
  unfold fb_tset
  dsimp only
  by_cases e : x = s
  · subst e
    rw [if_pos rfl, if_pos rfl, if_pos rfl, if_pos rfl]
    exact ⟨hn, hs, r1, r2, r3⟩
  · rw [if_neg e, if_neg e, if_neg e, if_neg e]
    obtain ⟨h6, hl, hm, ha, hc⟩ := h x hx
    refine ⟨h6, by rw [fl _ (by omega)]; exact hl, fb_row_fr hm ?_, fb_row_fr ha ?_, fb_row_fr hc ?_⟩
    · exact fun q h1 h2 => f1 q (by omega)
    · exact fun q h1 h2 => f2 q (by omega)
    · exact fun q h1 h2 => f3 q (by omega)
theorem fb_rep_setn {ls rm ra rc ls' rm' ra' rc' : Nat → Int32} {t s t' : Nat} {T : fb_Tab} (h : fb_rep ls rm ra rc t' T) (hne : t' ≠ t) (hs5 : s < 5)
    (fl : ∀ q, q ≠ 5 * t + s → ls' q = ls q)
    (f1 : ∀ q, (q < 6 * (5 * t + s) ∨ 6 * (5 * t + s) + 6 ≤ q) → rm' q = rm q) (f2 : ∀ q, (q < 6 * (5 * t + s) ∨ 6 * (5 * t + s) + 6 ≤ q) → ra' q = ra q)
    (f3 : ∀ q, (q < 6 * (5 * t + s) ∨ 6 * (5 * t + s) + 6 ≤ q) → rc' q = rc q) : fb_rep ls' rm' ra' rc' t' T := by
  refine fb_rep_fr h ?_ ?_ ?_ ?_
  · exact fun q h1 h2 => fl q (by omega)
  · exact fun q h1 h2 => f1 q (by omega)
  · exact fun q h1 h2 => f2 q (by omega)
  · exact fun q h1 h2 => f3 q (by omega)
theorem fb_row_add {f : Nat → Int32} {b n B x : Nat} {g : Nat → Nat} (h : fb_row f b n g B) (hx : x < B) : fb_row (upd f (b + n) (nI x)) b (n + 1) (fun i => if i = n then x else g i) B := by
  intro i hi
  by_cases e : i = n
  · subst e
    dsimp only
    rw [pk_us, if_pos rfl]
    exact ⟨rfl, hx⟩
  · dsimp only
    rw [pk_un (by omega), if_neg e]
    exact h i (by omega)
theorem fb_row_ix {f f' : Nat → Int32} {b n n' B : Nat} {g ix : Nat → Nat} (h : fb_row f b n g B) (hx : ∀ k, k < n' → ix k < n) (e : ∀ k, k < n' → f' (b + k) = f (b + ix k)) : fb_row f' b n' (fun k => g (ix k)) B := by
  intro k hk
  rw [e k hk]
  exact h (ix k) (hx k hk)
theorem fb_dpi_lt {i k n : Nat} (hk : k < n - 1) : fb_dpi i k < n := by
  unfold fb_dpi
  split
  all_goals omega
