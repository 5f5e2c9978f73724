/-! the waiting places: what is taken, finding, taking out, the most urgent -/
def wn_tk (C : Nat → Nat) (p : Nat) : Prop := p % 4 < C (p / 4)
def wn_dis (I C : Nat → Nat) : Prop := ∀ p q, p < 16 → q < 16 → wn_tk C p → wn_tk C q → I p = I q → p = q
theorem wn_q (p : Nat) (hp : p < 2 ^ 31) : nI p / 4 = nI (p / 4) ∧ nI p - nI p / 4 * 4 = nI (p % 4) :=
  ⟨pk_div (d := 4) hp (by decide) (by decide), pk_rem (d := 4) hp (by decide) (by decide)⟩
theorem wn_at (f : Nat → Nat) {j : Nat} (hj : j < 2 ^ 31) : nI (f (nI j).toNatClampNeg) = nI (f j) := by rw [nI_clamp hj]
section
variable {xt xs xe xw xq xi xg xb xc : Int32} {ai al ac bf bc mi fm fv fo es er : Nat → Int32} {ad bd : Nat → Int64}
variable {I C : Nat → Nat} {post : Int32 → Prop}
theorem wn_takenX {p : Nat} (hC : ∀ m, C m ≤ 4) (hp : p < 16) (h1 : wn_tk C p → post 1) (h0 : ¬ wn_tk C p → post 0) : wpX_isTaken post (xt, xs, xe, xw, xq, xi, xg, xb, xc, ai, al, ad, (fun z => nI (C z)), bf, bd, bc, mi, fm, fv, fo, es, er) (nI p) := by
  obtain ⟨e1, e2⟩ := wn_q p (by omega)
  have hc := hC (p / 4)
  show ¬ (4 : Int32) = 0 ∧ ¬ (4 : Int32) = 0 ∧ vp_in (nI p / 4) 4 ∧ ((nI (C (nI p / 4).toNatClampNeg) ≤ nI p - nI p / 4 * 4 → post 0) ∧ (¬ nI (C (nI p / 4).toNatClampNeg) ≤ nI p - nI p / 4 * 4 → post 1))
  rw [e2, e1, nI_clamp (by omega)]
  exact ⟨by decide, by decide, vp_in_nI (by omega) (by decide), pk_le (C (p / 4)) (p % 4) (fun z => h0 (Nat.not_lt.mpr z)) (fun z => h1 z) rfl rfl (by omega) (by omega)⟩
theorem wn_findXL {a : Nat} (hC : ∀ m, C m ≤ 4) (hI : ∀ p, I p < 2048) (ha : a < 2048) : ∀ d j, j + d = 16 →
    (∀ q, j ≤ q → q < 16 → wn_tk C q → I q = a → post (nI q)) → ((∀ q, j ≤ q → q < 16 → wn_tk C q → I q ≠ a) → post (-2)) →
    wX_placeOfWaiting_2 post (nI a) xt xs xe xw xq xi xg xb xc (fun z => nI (I z)) al ad (fun z => nI (C z)) bf bd bc mi fm fv fo es er (d + 1) (nI j) := by
  intro d
  induction d with
  | zero =>
    intro j hj _ h2
    exact br_t (show (16 : Int32) ≤ nI j from nI_le (a := 16) (by omega) (by omega)) (h2 (fun q h3 h4 => by omega))
  | succ d ih =>
    intro j hj h1 h2
    have step : (wn_tk C j → I j ≠ a) → wX_placeOfWaiting_2 post (nI a) xt xs xe xw xq xi xg xb xc (fun z => nI (I z)) al ad (fun z => nI (C z)) bf bd bc mi fm fv fo es er (d + 1) (nI (j + 1)) := fun hn =>
      ih (j + 1) (by omega) (fun q h3 => h1 q (by omega)) (fun h3 => h2 (fun q h4 h5 h6 => by
        by_cases e : q = j
        · subst e
          exact hn h6
        · exact h3 q (by omega) h5 h6))
    refine br_f (show ¬ (16 : Int32) ≤ nI j from nI_ge (b := 16) (by omega) (by decide)) (wn_takenX hC (by omega) (fun ht => ?_) (fun hn => ?_))
    · refine br_f (by decide) ⟨vp_in_nI (by omega) (by decide), ?_⟩
      have hi := hI j
      exact pk_eq (I j) a (fun e => h1 j (Nat.le_refl j) (by omega) ht e) (fun e => nm_r (nI_1 j) (step (fun _ => e))) (wn_at I (by omega)) rfl (by omega) (by omega)
    · exact br_t rfl (nm_r (nI_1 j) (step (fun z => absurd z hn)))
theorem wn_findX {a : Nat} (hC : ∀ m, C m ≤ 4) (hI : ∀ p, I p < 2048) (ha : a < 2048) (h1 : ∀ q, q < 16 → wn_tk C q → I q = a → post (nI q)) (h2 : (∀ q, q < 16 → wn_tk C q → I q ≠ a) → post (-2)) :
    wpX_placeOfWaiting post (xt, xs, xe, xw, xq, xi, xg, xb, xc, (fun z => nI (I z)), al, ad, (fun z => nI (C z)), bf, bd, bc, mi, fm, fv, fo, es, er) (nI a) := by
  unfold wpX_placeOfWaiting
  exact ⟨17, wn_findXL hC hI ha 16 0 (by omega) (fun q _ => h1 q) (fun h => h2 (fun q => h q (by omega)))⟩
end
section
variable {yt ys ye yp yr yf yg yl yu yi yo ya yn yk : Int32} {on ma va se re ms ww wh bn bh : Nat → Int32} {wt bx : Nat → Int64}
variable {I L C : Nat → Nat} {post : Int32 → Prop}
theorem wn_h16 {i l : Nat} (hi : i < 2048) (hl : l ≤ 8) : nI (16 * i + l) / 16 = nI i ∧ nI (16 * i + l) - nI (16 * i + l) / 16 * 16 = nI l := by
  have e1 := pk_div (a := 16 * i + l) (d := 16) (by omega) (by decide) (by decide)
  have e2 := pk_rem (a := 16 * i + l) (d := 16) (by omega) (by decide) (by decide)
  exact ⟨e1.trans (congrArg nI (by omega)), e2.trans (congrArg nI (by omega))⟩
theorem wn_findYL {a : Nat} (hC : ∀ m, C m ≤ 4) (hI : ∀ p, I p < 2048) (hL : ∀ p, L p ≤ 8) (ha : a < 2048) : ∀ d j, j + d = 16 →
    (∀ q, j ≤ q → q < 16 → wn_tk C q → I q = a → post (nI q)) → ((∀ q, j ≤ q → q < 16 → wn_tk C q → I q ≠ a) → post (-1)) →
    wY_find_2 post (nI a) yt ys ye yp yr yf yg yl yu yi yo ya yn yk on ma va se re ms (fun z => nI (C z)) (fun z => nI (16 * I z + L z)) wt bn bh bx (d + 1) (nI j) := by
  intro d
  induction d with
  | zero =>
    intro j hj _ h2
    exact br_t (show (16 : Int32) ≤ nI j from nI_le (a := 16) (by omega) (by omega)) (h2 (fun q h3 h4 => by omega))
  | succ d ih =>
    intro j hj h1 h2
    have step : (wn_tk C j → I j ≠ a) → wY_find_2 post (nI a) yt ys ye yp yr yf yg yl yu yi yo ya yn yk on ma va se re ms (fun z => nI (C z)) (fun z => nI (16 * I z + L z)) wt bn bh bx (d + 1) (nI (j + 1)) := fun hn =>
      ih (j + 1) (by omega) (fun q h3 => h1 q (by omega)) (fun h3 => h2 (fun q h4 h5 h6 => by
        by_cases e : q = j
        · subst e
          exact hn h6
        · exact h3 q (by omega) h5 h6))
    obtain ⟨e1, e2⟩ := wn_q j (by omega)
    have hc := hC (j / 4)
    have hi := hI j
    have ec : nI (C (nI j / 4).toNatClampNeg) = nI (C (j / 4)) := by rw [e1, nI_clamp (by omega)]
    have eh : nI (16 * I (nI j).toNatClampNeg + L (nI j).toNatClampNeg) / 16 = nI (I j) := by rw [nI_clamp (by omega)]; exact (wn_h16 (hI j) (hL j)).1
    refine br_f (show ¬ (16 : Int32) ≤ nI j from nI_ge (b := 16) (by omega) (by decide)) ⟨by decide, by decide, pk_in (j / 4) 4 (by omega) e1, ?_⟩
    refine pk_le (C (j / 4)) (j % 4) (fun z => nm_r (nI_1 j) (step (fun y => absurd y (Nat.not_lt.mpr z)))) (fun z => ⟨vp_in_nI (by omega) (by decide), by decide, ?_⟩) ec e2 (by omega) (by omega)
    exact pk_eq (I j) a (fun e => h1 j (Nat.le_refl j) (by omega) z e) (fun e => nm_r (nI_1 j) (step (fun _ => e))) eh rfl (by omega) (by omega)
theorem wn_findY {a : Nat} (hC : ∀ m, C m ≤ 4) (hI : ∀ p, I p < 2048) (hL : ∀ p, L p ≤ 8) (ha : a < 2048) (h1 : ∀ q, q < 16 → wn_tk C q → I q = a → post (nI q)) (h2 : (∀ q, q < 16 → wn_tk C q → I q ≠ a) → post (-1)) :
    wpY_find post (yt, ys, ye, yp, yr, yf, yg, yl, yu, yi, yo, ya, yn, yk, on, ma, va, se, re, ms, (fun z => nI (C z)), (fun z => nI (16 * I z + L z)), wt, bn, bh, bx) (nI a) := by
  unfold wpY_find
  exact ⟨17, wn_findYL hC hI hL ha 16 0 (by omega) (fun q _ => h1 q) (fun h => h2 (fun q => h q (by omega)))⟩
end
/-- the places k .. e - 1 hold what stood one behind them -/
def wn_shf {α : Type} (k e : Nat) (f : Nat → α) : Nat → α := fun p => if k ≤ p ∧ p < e then f (p + 1) else f p
theorem wn_shf_0 {α : Type} (k : Nat) (f : Nat → α) : wn_shf k k f = f := by
  funext p
  exact if_neg (by omega)
theorem wn_shf_in {α : Type} {k e p : Nat} {f : Nat → α} (h1 : k ≤ p) (h2 : p < e) : wn_shf k e f p = f (p + 1) := if_pos ⟨h1, h2⟩
theorem wn_shf_out {α : Type} {k e p : Nat} {f : Nat → α} (h : p < k ∨ e ≤ p) : wn_shf k e f p = f p := if_neg (by omega)
theorem wn_shf_u {k j : Nat} {f : Nat → Int32} (hk : k ≤ j) : upd (wn_shf k j f) j (wn_shf k j f (j + 1)) = wn_shf k (j + 1) f := by
  funext p
  by_cases e : p = j
  · subst e
    rw [pk_us, wn_shf_out (by omega), wn_shf_in hk (by omega)]
  · rw [pk_un e]
    by_cases h : k ≤ p ∧ p < j
    · rw [wn_shf_in h.1 h.2, wn_shf_in h.1 (by omega)]
    · rw [wn_shf_out (by omega), wn_shf_out (by omega)]
theorem wn_shf_uL {k j : Nat} {f : Nat → Int64} (hk : k ≤ j) : vp_updL (wn_shf k j f) j (wn_shf k j f (j + 1)) = wn_shf k (j + 1) f := by
  funext p
  by_cases e : p = j
  · subst e
    rw [pk_uLs, wn_shf_out (by omega), wn_shf_in hk (by omega)]
  · rw [pk_uLn e]
    by_cases h : k ≤ p ∧ p < j
    · rw [wn_shf_in h.1 h.2, wn_shf_in h.1 (by omega)]
    · rw [wn_shf_out (by omega), wn_shf_out (by omega)]
theorem wn_rs {k j : Nat} {f : Nat → Int32} (hk : k ≤ j) (hj : j < 100) : upd (wn_shf k j f) (nI j).toNatClampNeg (wn_shf k j f (nI j + 1).toNatClampNeg) = wn_shf k (j + 1) f := by
  rw [nI_1, nI_clamp (by omega), nI_clamp (by omega)]
  exact wn_shf_u hk
theorem wn_rsL {k j : Nat} {f : Nat → Int64} (hk : k ≤ j) (hj : j < 100) : vp_updL (wn_shf k j f) (nI j).toNatClampNeg (wn_shf k j f (nI j + 1).toNatClampNeg) = wn_shf k (j + 1) f := by
  rw [nI_1, nI_clamp (by omega), nI_clamp (by omega)]
  exact wn_shf_uL hk
theorem wn_shf_nI (k e : Nat) (f : Nat → Nat) : wn_shf k e (fun z => nI (f z)) = fun z => nI (wn_shf k e f z) := by
  funext p
  by_cases h : k ≤ p ∧ p < e
  · rw [wn_shf_in h.1 h.2, wn_shf_in h.1 h.2]
  · rw [wn_shf_out (by omega), wn_shf_out (by omega)]
theorem wn_shf_h (k e : Nat) (f g : Nat → Nat) : wn_shf k e (fun z => nI (16 * f z + g z)) = fun z => nI (16 * wn_shf k e f z + wn_shf k e g z) := by
  funext p
  by_cases h : k ≤ p ∧ p < e
  · rw [wn_shf_in h.1 h.2, wn_shf_in h.1 h.2, wn_shf_in h.1 h.2]
  · rw [wn_shf_out (by omega), wn_shf_out (by omega), wn_shf_out (by omega)]
/-- one less in the counts -/
def wn_C1 (C : Nat → Nat) (m : Nat) : Nat → Nat := wn_set C m (C m - 1)
def wn_end (C : Nat → Nat) (k : Nat) : Nat := 4 * (k / 4) + (C (k / 4) - 1)
theorem wn_cnt {C : Nat → Nat} {m : Nat} (hm : m < 100) (h : 1 ≤ C m) : upd (fun z => nI (C z)) (nI m).toNatClampNeg (nI (C (nI m).toNatClampNeg) - 1) = fun z => nI (wn_C1 C m z) := by
  rw [nI_clamp (by omega), show nI (C m) - 1 = nI (C m - 1) from pk_sub (b := 1) h]
  exact wn_upd C m _
section
variable {xt xs xe xw xq xi xg xb xc : Int32} {ai al ac bf bc mi fm fv fo es er : Nat → Int32} {ad bd : Nat → Int64}
variable {post : SX → Prop}
theorem wn_rmXL {k e : Nat} (he : e < 16) (h : post (xt, xs, xe, xw, xq, xi, xg, xb, xc, wn_shf k e ai, wn_shf k e al, wn_shf k e ad, ac, bf, bd, bc, mi, fm, fv, fo, es, er)) : ∀ d j, j + d = e → k ≤ j →
    wX_removeWaiting_28 post (nI e) xt xs xe xw xq xi xg xb xc (d + 1) (nI j) (wn_shf k j ai) (wn_shf k j al) (wn_shf k j ad) ac bf bd bc mi fm fv fo es er := by
  intro d
  induction d with
  | zero =>
    intro j hj hk
    have e1 : j = e := by omega
    subst e1
    exact br_t (nI_le (Nat.le_refl _) (by omega)) h
  | succ d ih =>
    intro j hj hk
    have v1 : vp_in (nI j + 1) 16 := pk_in (j + 1) 16 (by omega) (nI_1 j)
    have v0 : vp_in (nI j) 16 := vp_in_nI (by omega) (by decide)
    exact br_f (nI_ge (by omega) (by omega)) ⟨v1, v0, nm_r (wn_rs hk (by omega)) ⟨v1, v0, nm_r (wn_rs hk (by omega)) ⟨v1, v0, nm_r (wn_rsL hk (by omega)) (nm_r (nI_1 j) (ih (j + 1) (by omega) (by omega)))⟩⟩⟩
theorem wn_rmX {C : Nat → Nat} {k : Nat} (hC : ∀ m, C m ≤ 4) (hk : k < 16) (ht : wn_tk C k)
    (h : post (xt, xs, xe, xw, xq, xi, xg, xb, xc, wn_shf k (wn_end C k) ai, wn_shf k (wn_end C k) al, wn_shf k (wn_end C k) ad, (fun z => nI (wn_C1 C (k / 4) z)), bf, bd, bc, mi, fm, fv, fo, es, er)) : wpX_removeWaiting post (xt, xs, xe, xw, xq, xi, xg, xb, xc, ai, al, ad, (fun z => nI (C z)), bf, bd, bc, mi, fm, fv, fo, es, er) (nI k) := by
  have hc := hC (k / 4)
  have ht' : k % 4 < C (k / 4) := ht
  have he : wn_end C k < 16 := by unfold wn_end; omega
  have hke : k ≤ wn_end C k := by unfold wn_end; omega
  have vm : vp_in (nI (k / 4)) 4 := vp_in_nI (by omega) (by decide)
  have e3 : nI (k / 4) * 4 + nI (wn_C1 C (k / 4) (nI (k / 4)).toNatClampNeg) = nI (wn_end C k) := by
    rw [nI_clamp (by omega), show wn_C1 C (k / 4) (k / 4) = C (k / 4) - 1 from wn_set_s]
    show nI (k / 4) * nI 4 + _ = _
    rw [pk_mul, nI_add]
    exact congrArg nI (by unfold wn_end; omega)
  have L := wn_rmXL (ac := fun z => nI (wn_C1 C (k / 4) z)) he h (wn_end C k - k) k (by omega) (Nat.le_refl k)
  simp only [wn_shf_0] at L
  unfold wpX_removeWaiting
  exact ⟨by decide, nm_r (wn_q k (by omega)).1 ⟨vm, vm, nm_r (wn_cnt (by omega) (by omega)) ⟨vm, nm_r e3 ⟨_, L⟩⟩⟩⟩
end
section
variable {yt ys ye yp yr yf yg yl yu yi yo ya yn yk : Int32} {on ma va se re ms ww wh bn bh : Nat → Int32} {wt bx : Nat → Int64}
variable {post : SY → Prop}
theorem wn_rmYL {C : Nat → Nat} {k e m : Nat} {x3 : Int32} (he : e < 16) (hm : m < 4) (hC : 4 * m + C m = e)
    (h : (x3 < 0 → post (yt, ys, ye, yp, yr, yf, yg, yl, yu, yi, yo, ya, yn, yk, on, ma, va, se, re, ms, (fun z => nI (C z)), wn_shf k e wh, wn_shf k e wt, bn, bh, bx)) ∧ (¬ x3 < 0 → wpY_find (fun r => post (yt, ys, ye, yp, yr, r, yg, yl, yu, yi, yo, ya, yn, yk, on, ma, va, se, re, ms, (fun z => nI (C z)), wn_shf k e wh, wn_shf k e wt, bn, bh, bx)) (yt, ys, ye, yp, yr, yf, yg, yl, yu, yi, yo, ya, yn, yk, on, ma, va, se, re, ms, (fun z => nI (C z)), wn_shf k e wh, wn_shf k e wt, bn, bh, bx) x3)) : ∀ d j, j + d = e → k ≤ j →
    wY_takeOut_42 post (nI m) x3 yt ys ye yp yr yf yg yl yu yi yo ya yn yk (d + 1) (nI j) on ma va se re ms (fun z => nI (C z)) (wn_shf k j wh) (wn_shf k j wt) bn bh bx := by
  have vm : vp_in (nI m) 4 := vp_in_nI hm (by decide)
  have e3 : 4 * nI m + nI (C (nI m).toNatClampNeg) = nI e := by
    rw [nI_clamp (by omega)]
    show nI 4 * nI m + _ = _
    rw [pk_mul, nI_add, hC]
  intro d
  induction d with
  | zero =>
    intro j hj hk
    have e1 : j = e := by omega
    subst e1
    exact ⟨vm, pk_le j j (fun _ => h) (fun z => by omega) e3 rfl (by omega) (by omega)⟩
  | succ d ih =>
    intro j hj hk
    have v1 : vp_in (nI j + 1) 16 := pk_in (j + 1) 16 (by omega) (nI_1 j)
    have v0 : vp_in (nI j) 16 := vp_in_nI (by omega) (by decide)
    exact ⟨vm, pk_le e j (fun z => by omega) (fun _ => ⟨v1, v0, nm_r (wn_rs hk (by omega)) ⟨v1, v0, nm_r (wn_rsL hk (by omega)) (nm_r (nI_1 j) (ih (j + 1) (by omega) (by omega)))⟩⟩) e3 rfl (by omega) (by omega)⟩
theorem wn_rmY28 {C : Nat → Nat} {k : Nat} {z0 : Int32} (hC : ∀ m, C m ≤ 4) (hk : k < 16) (ht : wn_tk C k)
    (h : (z0 < 0 → post (yt, ys, ye, yp, yr, yf, yg, yl, yu, yi, yo, ya, yn, yk, on, ma, va, se, re, ms, (fun z => nI (wn_C1 C (k / 4) z)), wn_shf k (wn_end C k) wh, wn_shf k (wn_end C k) wt, bn, bh, bx)) ∧ (¬ z0 < 0 → wpY_find (fun r => post (yt, ys, ye, yp, yr, r, yg, yl, yu, yi, yo, ya, yn, yk, on, ma, va, se, re, ms, (fun z => nI (wn_C1 C (k / 4) z)), wn_shf k (wn_end C k) wh, wn_shf k (wn_end C k) wt, bn, bh, bx)) (yt, ys, ye, yp, yr, yf, yg, yl, yu, yi, yo, ya, yn, yk, on, ma, va, se, re, ms, (fun z => nI (wn_C1 C (k / 4) z)), wn_shf k (wn_end C k) wh, wn_shf k (wn_end C k) wt, bn, bh, bx) z0)) :
    wY_takeOut_28 post (nI k) (nI (k / 4)) z0 yt ys ye yp yr yf yg yl yu yi yo ya yn yk on ma va se re ms (fun z => nI (C z)) wh wt bn bh bx := by
  have hc := hC (k / 4)
  have ht' : k % 4 < C (k / 4) := ht
  have he : wn_end C k < 16 := by unfold wn_end; omega
  have hke : k ≤ wn_end C k := by unfold wn_end; omega
  have vm : vp_in (nI (k / 4)) 4 := vp_in_nI (by omega) (by decide)
  have hCm : 4 * (k / 4) + wn_C1 C (k / 4) (k / 4) = wn_end C k := by
    rw [show wn_C1 C (k / 4) (k / 4) = C (k / 4) - 1 from wn_set_s]
    rfl
  have L := wn_rmYL he (show k / 4 < 4 by omega) hCm h (wn_end C k - k) k (by omega) (Nat.le_refl k)
  simp only [wn_shf_0] at L
  unfold wY_takeOut_28
  exact ⟨vm, vm, nm_r (wn_cnt (by omega) (by omega)) ⟨_, L⟩⟩
theorem wn_rmY {C : Nat → Nat} {k : Nat} (hC : ∀ m, C m ≤ 4) (hk : k < 16) (ht : wn_tk C k) (hp : ¬ yp = 1)
    (h : post (yt, ys, ye, yp, yr, yf, yg, yl, yu, yi, yo, ya, yn, yk, on, ma, va, se, re, ms, (fun z => nI (wn_C1 C (k / 4) z)), wn_shf k (wn_end C k) wh, wn_shf k (wn_end C k) wt, bn, bh, bx)) : wpY_takeOut post (yt, ys, ye, yp, yr, yf, yg, yl, yu, yi, yo, ya, yn, yk, on, ma, va, se, re, ms, (fun z => nI (C z)), wh, wt, bn, bh, bx) (nI k) := by
  unfold wpY_takeOut
  exact ⟨by decide, nm_r (wn_q k (by omega)).1 (br_f hp (wn_rmY28 hC hk ht (br_t wn_neg h)))⟩
end
/-- where what stands at p' after the taking out of k stood before, and where what stood at p stands then -/
theorem wn_src {C : Nat → Nat} {k p : Nat} (hC : ∀ m, C m ≤ 4) (hk : k < 16) (ht : wn_tk C k) (hp : p < 16) (h : wn_tk (wn_C1 C (k / 4)) p) :
    ∃ q, q < 16 ∧ wn_tk C q ∧ q ≠ k ∧ (∀ f : Nat → Nat, wn_shf k (wn_end C k) f p = f q) ∧ ((q = p ∧ (p < k ∨ p / 4 ≠ k / 4)) ∨ (q = p + 1 ∧ k ≤ p ∧ p < 4 * (k / 4) + 3)) := by
  have hc := hC (k / 4)
  have ht' : k % 4 < C (k / 4) := ht
  have h' : p % 4 < wn_C1 C (k / 4) (p / 4) := h
  have ee : wn_end C k = 4 * (k / 4) + (C (k / 4) - 1) := rfl
  by_cases hn : p / 4 = k / 4
  · have hs : wn_C1 C (k / 4) (p / 4) = C (k / 4) - 1 := by rw [hn]; exact wn_set_s
    rw [hs] at h'
    by_cases hkp : k ≤ p
    · have e1 : (p + 1) / 4 = k / 4 := by omega
      refine ⟨p + 1, by omega, ?_, by omega, fun f => wn_shf_in hkp (by omega), Or.inr ⟨rfl, hkp, by omega⟩⟩
      show (p + 1) % 4 < C ((p + 1) / 4)
      rw [e1]
      omega
    · refine ⟨p, hp, ?_, by omega, fun f => wn_shf_out (by omega), Or.inl ⟨rfl, by omega⟩⟩
      show p % 4 < C (p / 4)
      rw [hn]
      omega
  · have hs : wn_C1 C (k / 4) (p / 4) = C (p / 4) := wn_set_n hn
    rw [hs] at h'
    have ho : p < k ∨ wn_end C k ≤ p := by omega
    exact ⟨p, hp, h', fun z => hn (by rw [z]), fun f => wn_shf_out ho, Or.inl ⟨rfl, Or.inr hn⟩⟩
theorem wn_dst {C : Nat → Nat} {k q : Nat} (hC : ∀ m, C m ≤ 4) (hk : k < 16) (ht : wn_tk C k) (hq : q < 16) (h : wn_tk C q) (hne : q ≠ k) :
    ∃ p, p < 16 ∧ wn_tk (wn_C1 C (k / 4)) p ∧ (∀ f : Nat → Nat, wn_shf k (wn_end C k) f p = f q) := by
  have hc := hC (k / 4)
  have ht' : k % 4 < C (k / 4) := ht
  have h' : q % 4 < C (q / 4) := h
  have ee : wn_end C k = 4 * (k / 4) + (C (k / 4) - 1) := rfl
  by_cases hn : q / 4 = k / 4
  · rw [hn] at h'
    by_cases hkq : k < q
    · have e1 : (q - 1) / 4 = k / 4 := by omega
      refine ⟨q - 1, by omega, ?_, fun f => ?_⟩
      · show (q - 1) % 4 < wn_C1 C (k / 4) ((q - 1) / 4)
        rw [e1, show wn_C1 C (k / 4) (k / 4) = C (k / 4) - 1 from wn_set_s]
        omega
      · rw [wn_shf_in (by omega) (by omega)]
        exact congrArg f (by omega)
    · refine ⟨q, hq, ?_, fun f => wn_shf_out (by omega)⟩
      show q % 4 < wn_C1 C (k / 4) (q / 4)
      rw [hn, show wn_C1 C (k / 4) (k / 4) = C (k / 4) - 1 from wn_set_s]
      omega
  · refine ⟨q, hq, ?_, fun f => wn_shf_out (by omega)⟩
    show q % 4 < wn_C1 C (k / 4) (q / 4)
    rw [show wn_C1 C (k / 4) (q / 4) = C (q / 4) from wn_set_n hn]
    exact h'
theorem wn_dis_rm {I C : Nat → Nat} {k : Nat} (hC : ∀ m, C m ≤ 4) (hk : k < 16) (ht : wn_tk C k) (hd : wn_dis I C) : wn_dis (wn_shf k (wn_end C k) I) (wn_C1 C (k / 4)) := by
  intro p q hp hq tp tq e
  obtain ⟨p1, a1, a2, a3, a4, a5⟩ := wn_src hC hk ht hp tp
  obtain ⟨q1, b1, b2, b3, b4, b5⟩ := wn_src hC hk ht hq tq
  rw [a4 I, b4 I] at e
  have := hd p1 q1 a1 b1 a2 b2 e
  omega
theorem wn_C1_le {C : Nat → Nat} {m : Nat} (hC : ∀ i, C i ≤ 4) : ∀ i, wn_C1 C m i ≤ 4 := by
  intro i
  by_cases e : i = m
  · subst e
    rw [show wn_C1 C i i = C i - 1 from wn_set_s]
    have := hC i
    omega
  · rw [show wn_C1 C m i = C i from wn_set_n e]
    exact hC i
theorem wn_shf_lt {k e b : Nat} {f : Nat → Nat} (h : ∀ p, f p < b) : ∀ p, wn_shf k e f p < b := by
  intro p
  unfold wn_shf
  split
  · exact h _
  · exact h _
theorem wn_shf_le {k e b : Nat} {f : Nat → Nat} (h : ∀ p, f p ≤ b) : ∀ p, wn_shf k e f p ≤ b := by
  intro p
  unfold wn_shf
  split
  · exact h _
  · exact h _
section
variable {xt xs xe xw xq xi xg xb xc : Int32} {ai al ac bf bc mi fm fv fo es er : Nat → Int32} {ad bd : Nat → Int64}
variable {I L C B S E : Nat → Nat} {post : SX → Prop}
theorem wn_rmXP {k : Nat} (hC : ∀ m, C m ≤ 4) (hk : k < 16) (ht : wn_tk C k)
    (h : post (xt, xs, xe, xw, xq, xi, xg, xb, xc, (fun z => nI ((wn_shf k (wn_end C k) I) z)), (fun z => nI ((wn_shf k (wn_end C k) L) z)), wn_shf k (wn_end C k) ad, (fun z => nI ((wn_C1 C (k / 4)) z)), bf, bd, (fun z => nI (B z)), mi, fm, fv, fo, (fun z => nI (S z)), (fun z => nI (E z)))) : wpX_removeWaiting post (xt, xs, xe, xw, xq, xi, xg, xb, xc, (fun z => nI (I z)), (fun z => nI (L z)), ad, (fun z => nI (C z)), bf, bd, (fun z => nI (B z)), mi, fm, fv, fo, (fun z => nI (S z)), (fun z => nI (E z))) (nI k) := by
  refine wn_rmX hC hk ht ?_
  rw [wn_shf_nI, wn_shf_nI]
  exact h
end
/-! the most urgent frame: both scans in step -/
def wn_ox : Option Nat → Int32
  | none => -2
  | some b => nI b
def wn_oy : Option Nat → Int32
  | none => -1
  | some b => nI b
theorem wn_ne2 {q : Nat} (hq : q < 2 ^ 31) : ¬ nI q = -2 := fun e => nI_pos hq (by rw [e]; decide)
section
variable {xt xs xe xw xq xi xg xb xc : Int32} {ai al ac bf bc mi fm fv fo es er : Nat → Int32} {ad bd : Nat → Int64}
variable {yt ys ye yp yr yf yg yl yu yi yo ya yn yk : Int32} {on ma va se re ms ww wh bn bh : Nat → Int32} {wt bx : Nat → Int64}
variable {I L C : Nat → Nat}
theorem wn_most (hI : ∀ p, I p < 2048) (hL : ∀ p, L p ≤ 8) (hC : ∀ m, C m ≤ 4) (hd : wn_dis I C) (hO : ∀ m, m < 4 → (fo m = 0 ∧ on m = 1) ∨ (fo m = 1 ∧ on m = 0)) :
    ∀ d j, j + d = 16 → ∀ o : Option Nat, (∀ b, o = some b → b < j ∧ wn_tk C b) → ∃ o' : Option Nat, (∀ b, o' = some b → b < 16 ∧ wn_tk C b) ∧
      (∀ post : Int32 → Prop, post (wn_ox o') → wX_placeOfMostUrgent_5 post xt xs xe xw xq xi xg xb xc (fun z => nI (I z)) al ad (fun z => nI (C z)) bf bd bc mi fm fv fo es er (d + 1) (wn_ox o) (nI j)) ∧
      (∀ post : Int32 → Prop, post (wn_oy o') → wY_mostUrgent_4 post yt ys ye yp yr yf yg yl yu yi yo ya yn yk on ma va se re ms (fun z => nI (C z)) (fun z => nI (16 * I z + L z)) wt bn bh bx (d + 1) (wn_oy o) (nI j)) := by
  intro d
  induction d with
  | zero =>
    intro j hj o ho
    have h16 : (16 : Int32) ≤ nI j := nI_le (a := 16) (by omega) (by omega)
    exact ⟨o, fun b hb => ⟨by have := (ho b hb).1; omega, (ho b hb).2⟩, fun post hp => br_t h16 hp, fun post hp => br_t h16 hp⟩
  | succ d ih =>
    intro j hj o ho
    obtain ⟨e1, e2⟩ := wn_q j (by omega)
    have hc := hC (j / 4)
    have n16 : ¬ (16 : Int32) ≤ nI j := nI_ge (b := 16) (by omega) (by decide)
    have vj : vp_in (nI j) 16 := vp_in_nI (by omega) (by decide)
    have vq : vp_in (nI j / 4) 4 := pk_in (j / 4) 4 (by omega) e1
    have ec : nI (C (nI j / 4).toNatClampNeg) = nI (C (j / 4)) := by rw [e1, nI_clamp (by omega)]
    have ef : fo (nI j / 4).toNatClampNeg = fo (j / 4) := by rw [e1, nI_clamp (by omega)]
    have eo : on (nI j / 4).toNatClampNeg = on (j / 4) := by rw [e1, nI_clamp (by omega)]
    have up : ∀ b, o = some b → b < j + 1 ∧ wn_tk C b := fun b hb => ⟨by have := (ho b hb).1; omega, (ho b hb).2⟩
    by_cases ht : wn_tk C j
    · have htc : ¬ nI (C (nI j / 4).toNatClampNeg) ≤ nI j - nI j / 4 * 4 := by rw [ec, e2]; exact nI_ge ht (by omega)
      rcases hO (j / 4) (by omega) with ⟨hf, hn⟩ | ⟨hf, hn⟩
      · have hf0 : fo (nI j / 4).toNatClampNeg = 0 := ef.trans hf
        have hn0 : ¬ on (nI j / 4).toNatClampNeg = 0 := by rw [eo, hn]; decide
        match o, ho, up with
        | none, ho, up =>
          obtain ⟨o', h1, hX, hY⟩ := ih (j + 1) (by omega) (some j) (fun b hb => by cases hb; exact ⟨by omega, ht⟩)
          refine ⟨o', h1, fun post hp => br_f n16 (wn_takenX hC (by omega) (fun _ => ?_) (fun z => absurd ht z)), fun post hp => br_f n16 ⟨by decide, vq, br_f hn0 ⟨by decide, by decide, vq, br_f htc ?_⟩⟩⟩
          · exact br_f (by decide) ⟨by decide, vq, br_t hf0 (br_t rfl (nm_r (nI_1 j) (hX post hp)))⟩
          · exact br_f (by decide) (br_t wn_neg (nm_r (nI_1 j) (hY post hp)))
        | some b, ho, up =>
          obtain ⟨hbj, hbt⟩ := ho b rfl
          have vb : vp_in (nI b) 16 := vp_in_nI (by omega) (by decide)
          have hne : I b ≠ I j := fun z => by have := hd b j (by omega) (by omega) hbt ht z; omega
          have hb0 := hI b
          have hj0 := hI j
          have lb := hL b
          have lj := hL j
          by_cases hlt : I b ≤ I j
          · obtain ⟨o', h1, hX, hY⟩ := ih (j + 1) (by omega) (some b) (fun c hb => up c hb)
            refine ⟨o', h1, fun post hp => br_f n16 (wn_takenX hC (by omega) (fun _ => ?_) (fun z => absurd ht z)), fun post hp => br_f n16 ⟨by decide, vq, br_f hn0 ⟨by decide, by decide, vq, br_f htc ?_⟩⟩⟩
            · refine br_f (by decide) ⟨by decide, vq, br_t hf0 (br_f (wn_ne2 (by omega)) ⟨vj, vb, br_t ?_ (nm_r (nI_1 j) (hX post hp))⟩)⟩
              show nI (I (nI b).toNatClampNeg) ≤ nI (I (nI j).toNatClampNeg)
              rw [nI_clamp (by omega), nI_clamp (by omega)]
              exact nI_le hlt (by omega)
            · refine br_f (by decide) (br_f (nI_pos (by omega)) ⟨vj, vb, br_t ?_ (nm_r (nI_1 j) (hY post hp))⟩)
              show nI (16 * I (nI b).toNatClampNeg + L (nI b).toNatClampNeg) ≤ nI (16 * I (nI j).toNatClampNeg + L (nI j).toNatClampNeg)
              rw [nI_clamp (by omega), nI_clamp (by omega)]
              exact nI_le (by omega) (by omega)
          · obtain ⟨o', h1, hX, hY⟩ := ih (j + 1) (by omega) (some j) (fun c hb => by cases hb; exact ⟨by omega, ht⟩)
            refine ⟨o', h1, fun post hp => br_f n16 (wn_takenX hC (by omega) (fun _ => ?_) (fun z => absurd ht z)), fun post hp => br_f n16 ⟨by decide, vq, br_f hn0 ⟨by decide, by decide, vq, br_f htc ?_⟩⟩⟩
            · refine br_f (by decide) ⟨by decide, vq, br_t hf0 (br_f (wn_ne2 (by omega)) ⟨vj, vb, br_f ?_ (nm_r (nI_1 j) (hX post hp))⟩)⟩
              show ¬ nI (I (nI b).toNatClampNeg) ≤ nI (I (nI j).toNatClampNeg)
              rw [nI_clamp (by omega), nI_clamp (by omega)]
              exact nI_ge (by omega) (by omega)
            · refine br_f (by decide) (br_f (nI_pos (by omega)) ⟨vj, vb, br_f ?_ (nm_r (nI_1 j) (hY post hp))⟩)
              show ¬ nI (16 * I (nI b).toNatClampNeg + L (nI b).toNatClampNeg) ≤ nI (16 * I (nI j).toNatClampNeg + L (nI j).toNatClampNeg)
              rw [nI_clamp (by omega), nI_clamp (by omega)]
              exact nI_ge (by omega) (by omega)
      · have hf0 : ¬ fo (nI j / 4).toNatClampNeg = 0 := by rw [ef, hf]; decide
        have hn0 : on (nI j / 4).toNatClampNeg = 0 := eo.trans hn
        obtain ⟨o', h1, hX, hY⟩ := ih (j + 1) (by omega) o up
        refine ⟨o', h1, fun post hp => br_f n16 (wn_takenX hC (by omega) (fun _ => ?_) (fun z => absurd ht z)), fun post hp => br_f n16 ⟨by decide, vq, br_t hn0 ?_⟩⟩
        · exact br_f (by decide) ⟨by decide, vq, br_f hf0 (nm_r (nI_1 j) (hX post hp))⟩
        · exact br_t rfl (nm_r (nI_1 j) (hY post hp))
    · have htc : nI (C (nI j / 4).toNatClampNeg) ≤ nI j - nI j / 4 * 4 := by rw [ec, e2]; exact nI_le (Nat.not_lt.mp ht) (by omega)
      obtain ⟨o', h1, hX, hY⟩ := ih (j + 1) (by omega) o up
      refine ⟨o', h1, fun post hp => br_f n16 (wn_takenX hC (by omega) (fun z => absurd z ht) (fun _ => br_t rfl (nm_r (nI_1 j) (hX post hp)))), fun post hp => br_f n16 ⟨by decide, vq, br_c (fun _ => br_t rfl (nm_r (nI_1 j) (hY post hp))) (fun _ => ⟨by decide, by decide, vq, br_t htc (br_t rfl (nm_r (nI_1 j) (hY post hp)))⟩)⟩⟩
end
