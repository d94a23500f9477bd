/-! X's walks: a tick, the start -/
theorem fb_tk_t {τ : Nat → fb_Tab} {pe : Nat → Int32} {tt : Nat → Nat} {n : Nat} {q : fb_Q} (h : (fb_tk τ pe tt n q).1 n = 1) : fb_tk τ pe tt (n + 1) q = fb_pk τ pe tt n (fb_tk τ pe tt n q) := by
  rw [fb_tk]
  exact if_pos h
theorem fb_tk_f {τ : Nat → fb_Tab} {pe : Nat → Int32} {tt : Nat → Nat} {n : Nat} {q : fb_Q} (h : ¬ (fb_tk τ pe tt n q).1 n = 1) : fb_tk τ pe tt (n + 1) q = fb_tk τ pe tt n q := by
  rw [fb_tk]
  exact if_neg h
def fb_fl (q : fb_Q) (n : Nat) : Nat := fb_cnt (fun j => decide (q.1 j = 1)) n
theorem fb_fl_s (τ : Nat → fb_Tab) (pe : Nat → Int32) (tt : Nat → Nat) (q : fb_Q) (n : Nat) : fb_cnt (fun j => decide ((fb_tk τ pe tt (n + 1) q).1 j = 1)) n = fb_fl (fb_tk τ pe tt n q) n := by
  refine fb_cnt_congr fun j hj => ?_
  rw [fb_tk_st τ pe tt q hj]
section
variable {fA : Int32} {pe ls rm ra rc st pl hd tX tr tY : Nat → Int32}
theorem fx_t25 {post : Int32 → SX → Prop} {J : Int32 → Int32 → Int32 → (Nat → Int32) → (Nat → Int32) → (Nat → Int32) → (Nat → Int32) → (Nat → Int32) → (Nat → Int32) → (Nat → Int32) → (Nat → Int32) → (Nat → Int32) → (Nat → Int32) → Prop}
    {k c : Nat} (hk : k < 8) (h1 : st k = 1 → J (nI (c + 1)) (nI (k + 1)) fA pe ls rm ra rc st pl hd tX tr) (h0 : ¬ st k = 1 → J (nI c) (nI (k + 1)) fA pe ls rm ra rc st pl hd tX tr) : wX_tick_25 post J (nI c) (nI k) fA pe ls rm ra rc st pl hd tX tr := by
  have hv : vp_in (nI k) 8 := vp_in_nI hk (by omega)
  have hc : (nI k).toNatClampNeg = k := nI_clamp (by omega)
  unfold wX_tick_25
  rw [hc]
  by_cases e : st k = 1
  · exact ⟨hv, br_t e (nm_r (nI_1 c) (nm_r (nI_1 k) (h1 e)))⟩
  · exact ⟨hv, br_f e (nm_r (nI_1 k) (h0 e))⟩
theorem fx_t4 {post : Int32 → SX → Prop} {τ : Nat → fb_Tab} {tt sg : Nat → Nat} {q : fb_Q} (hpe : fb_pok pe) (hR : ∀ k, k < 8 → q.1 k = 1 → tt k < 4 ∧ fb_rep ls rm ra rc (tt k) (τ (tt k)))
    (h : fb_pkok q.1 q.2.1 q.2.2.1 q.2.2.2 tX tY tt sg)
    (hp : post (nI (fb_fl (fb_tk τ pe tt 8 q) 8)) (fA, pe, ls, rm, ra, rc, (fb_tk τ pe tt 8 q).1, (fb_tk τ pe tt 8 q).2.1, (fb_tk τ pe tt 8 q).2.2.1, tX, (fb_tk τ pe tt 8 q).2.2.2)) :
    ∀ d k, k + d = 8 → ∀ n, d < n → wX_tick_4 post n (nI (fb_fl (fb_tk τ pe tt k q) k)) (nI k) fA pe ls rm ra rc ((fb_tk τ pe tt k q).1) ((fb_tk τ pe tt k q).2.1) ((fb_tk τ pe tt k q).2.2.1) tX ((fb_tk τ pe tt k q).2.2.2) := by
  intro d
  induction d with
  | zero =>
    intro k hk n hn
    obtain ⟨m, rfl⟩ : ∃ m, n = m + 1 := ⟨n - 1, by omega⟩
    obtain rfl : k = 8 := hk
    exact br_t (nI_le (a := 8) (by omega) (by omega)) hp
  | succ d ih =>
    intro k hk n hn
    obtain ⟨m, rfl⟩ : ∃ m, n = m + 1 := ⟨n - 1, by omega⟩
    have hv : vp_in (nI k) 8 := vp_in_nI (by omega) (by omega)
    have hc : (nI k).toNatClampNeg = k := nI_clamp (by omega)
    have r := ih (k + 1) (by omega) m (by omega)
    have hfl := fb_fl_s τ pe tt q k
    have r1 : (fb_tk τ pe tt (k + 1) q).1 k = 1 → wX_tick_4 post m (nI (fb_fl (fb_tk τ pe tt k q) k + 1)) (nI (k + 1)) fA pe ls rm ra rc ((fb_tk τ pe tt (k + 1) q).1) ((fb_tk τ pe tt (k + 1) q).2.1) ((fb_tk τ pe tt (k + 1) q).2.2.1) tX ((fb_tk τ pe tt (k + 1) q).2.2.2) := by
      intro e
      rw [← hfl, ← fb_cnt_t (f := fun j => decide ((fb_tk τ pe tt (k + 1) q).1 j = 1)) (decide_eq_true e)]
      exact r
    have r0 : ¬ (fb_tk τ pe tt (k + 1) q).1 k = 1 → wX_tick_4 post m (nI (fb_fl (fb_tk τ pe tt k q) k)) (nI (k + 1)) fA pe ls rm ra rc ((fb_tk τ pe tt (k + 1) q).1) ((fb_tk τ pe tt (k + 1) q).2.1) ((fb_tk τ pe tt (k + 1) q).2.2.1) tX ((fb_tk τ pe tt (k + 1) q).2.2.2) := by
      intro e
      rw [← hfl, ← fb_cnt_f (f := fun j => decide ((fb_tk τ pe tt (k + 1) q).1 j = 1)) (fun z => e (of_decide_eq_true z))]
      exact r
    refine br_f (nI_ge (b := 8) (by omega) (by omega)) ⟨hv, ?_⟩
    rw [hc]
    obtain ⟨ok, hst⟩ := fb_tk_ok (τ := τ) hpe (fun j hj hj1 => fb_rep_ok (hR j hj hj1).2) h k (by omega)
    by_cases e : (fb_tk τ pe tt k q).1 k = 1
    · obtain ⟨⟨p, hp20, ep⟩, ⟨hh, hh64, eh⟩, ⟨mm, hm, em⟩, ht, et, _⟩ := ok k (by omega) e
      obtain ⟨ht4, R⟩ := hR k (by omega) (hst k e)
      refine br_t e (fx_treat (τ := τ) (tt := tt) (by omega) hp20 ep hh64 eh hm em ht4 et R hpe (fb_tk_t e) ?_)
      exact fx_t25 (by omega) r1 r0
    · rw [fb_tk_f e] at r1 r0
      exact br_f e (fx_t25 (by omega) r1 r0)
theorem fx_tick {post : Int32 → SX → Prop} {τ : Nat → fb_Tab} {tt sg : Nat → Nat} (hpe : fb_pok pe) (hR : ∀ k, k < 8 → st k = 1 → tt k < 4 ∧ fb_rep ls rm ra rc (tt k) (τ (tt k)))
    (h : fb_pkok st pl hd tr tX tY tt sg) (Q : fb_Q) (eQ : fb_tk τ pe tt 8 (st, pl, hd, tr) = Q)
    (hp : post (nI (fb_fl Q 8)) (fA, pe, ls, rm, ra, rc, Q.1, Q.2.1, Q.2.2.1, tX, Q.2.2.2)) : wpX_tick post (fA, pe, ls, rm, ra, rc, st, pl, hd, tX, tr) := by
  have r := fx_t4 (fA := fA) (post := post) (q := (st, pl, hd, tr)) hpe hR h (by rw [eQ]; exact hp) 8 0 rfl 9 (by omega)
  unfold wpX_tick
  exact ⟨9, r⟩
/-- the links of a new object, n of them set -/
def fb_li (n : Nat) : Nat → Int32 := fun a => if a < n then -1 else 0
theorem fb_li_0 : fb_li 0 = fun _ => 0 := by
  funext a
  exact if_neg (by omega)
theorem fb_li_s (n : Nat) : upd (fb_li n) n (-1) = fb_li (n + 1) := by
  funext a
  simp only [upd, fb_li]
  by_cases e : a = n
  · rw [if_pos e, if_pos (by omega)]
  · rw [if_neg e]
    by_cases h : a < n
    · rw [if_pos h, if_pos (by omega)]
    · rw [if_neg h, if_neg (by omega)]
theorem fb_li_ok : fb_pok (fb_li 20) := fun _ ha => Or.inl (if_pos ha)
theorem fx_i91 {post : SX → Prop} (hp : post (fA, fb_li 20, ls, rm, ra, rc, st, pl, hd, tX, tr)) : ∀ d k, k + d = 20 → ∀ n, d < n → wX_init_91 post fA n (nI k) (fb_li k) ls rm ra rc st pl hd tX tr := by
  intro d
  induction d with
  | zero =>
    intro k hk n hn
    obtain ⟨m, rfl⟩ : ∃ m, n = m + 1 := ⟨n - 1, by omega⟩
    obtain rfl : k = 20 := hk
    exact br_t (nI_le (a := 20) (by omega) (by omega)) hp
  | succ d ih =>
    intro k hk n hn
    obtain ⟨m, rfl⟩ : ∃ m, n = m + 1 := ⟨n - 1, by omega⟩
    refine br_f (nI_ge (b := 20) (by omega) (by omega)) ⟨vp_in_nI (by omega) (by omega), ?_⟩
    rw [nI_clamp (by omega)]
    exact nm_r (fb_li_s k) (nm_r (nI_1 k) (ih (k + 1) (by omega) m (by omega)))
theorem fx_init {post : SX → Prop} (hp : post (0, fb_li 20, fun _ => 0, fun _ => 0, fun _ => 0, fun _ => 0, fun _ => 0, fun _ => 0, fun _ => 0, fun _ => 0, fun _ => 0)) : wpX_init post := by
  unfold wpX_init
  have r := fx_i91 hp 20 0 rfl 21 (by omega)
  rw [fb_li_0] at r
  exact ⟨_, r⟩
end
