/-! the relation, and the node's and the id's tests -/
def wn_G (T D H : Nat) (I L C B S E : Nat → Nat) (fo on : Nat → Int32) : Prop :=
  (D ≤ 1000 ∧ (D = 0 → H ≤ T) ∧ (0 < D → H = T + D)) ∧ (∀ p, I p < 2048) ∧ (∀ p, L p ≤ 8) ∧ (∀ m, C m ≤ 4) ∧ (∀ m, B m ≤ 6) ∧ (∀ m, S m ≤ 8 * T) ∧ (∀ m, E m ≤ 255) ∧
  (∀ m, m < 4 → (fo m = 0 ∧ on m = 1) ∨ (fo m = 1 ∧ on m = 0)) ∧ wn_dis I C
/-- a frame is under way -/
def wn_sd (I C : Nat → Nat) (xi xg xb xc yf yg yl yu : Int32) : Prop :=
  ∃ p g b q, p < 16 ∧ wn_tk C p ∧ xi = nI (I p) ∧ yf = nI p ∧ xg = nI g ∧ yg = nI g ∧ xb = nI b ∧ yl = nI b ∧ xc = nI (q + 10) ∧ yu = nI q ∧ b ≤ 1000 ∧ 1 ≤ q ∧ q ≤ 1000 ∧ g ≤ q + 9
def wn_ph (I C : Nat → Nat) (xw xq xi xg xb xc yr yf yg yl yu : Int32) : Prop :=
  xw = 0 ∨ (xw = 1 ∧ wn_sd I C xi xg xb xc yf yg yl yu) ∨ ((xw = 2 ∨ xw = 3) ∧ ∃ r, 1 ≤ r ∧ r ≤ 14 ∧ xq = nI r ∧ yr = nI r)
def wn_R (T : Nat) (u : SX) (v : SY) : Prop :=
  ∃ (D H : Nat) (xs xw xq xi xg xb xc yr yf yg yl yu yi yo ya yn yk : Int32) (I L C B S E : Nat → Nat) (ad bd : Nat → Int64) (bf mi fm fv fo on : Nat → Int32),
    u = (nI T, xs, nI D, xw, xq, xi, xg, xb, xc, (fun z => nI (I z)), (fun z => nI (L z)), ad, (fun z => nI (C z)), bf, bd, (fun z => nI (B z)), mi, fm, fv, fo, (fun z => nI (S z)), (fun z => nI (E z))) ∧ v = (nI T, xs, nI H, xw, yr, yf, yg, yl, yu, yi, yo, ya, yn, yk, on, fm, fv, (fun z => nI (S z)), (fun z => nI (E z)), mi, (fun z => nI (C z)), (fun z => nI (16 * I z + L z)), ad, (fun z => nI (B z)), bf, bd) ∧ wn_G T D H I L C B S E fo on ∧ wn_ph I C xw xq xi xg xb xc yr yf yg yl yu
def i_Rel (k : Nat) (u : SX) (v : SY) : Prop := ∃ T, T ≤ 400 * k ∧ wn_R T u v
theorem i_up {k : Nat} {u : SX} {v : SY} (h : i_Rel k u v) : i_Rel (k + 5) u v := by
  obtain ⟨T, hT, h⟩ := h
  exact ⟨T, by omega, h⟩
section
variable {T D H : Nat} {xs xw xq xi xg xb xc yr yf yg yl yu yi yo ya yn yk : Int32} {I L C B S E : Nat → Nat} {ad bd : Nat → Int64} {bf mi fm fv fo on : Nat → Int32}
theorem wn_mk (G : wn_G T D H I L C B S E fo on) (P : wn_ph I C xw xq xi xg xb xc yr yf yg yl yu) : wn_R T (nI T, xs, nI D, xw, xq, xi, xg, xb, xc, (fun z => nI (I z)), (fun z => nI (L z)), ad, (fun z => nI (C z)), bf, bd, (fun z => nI (B z)), mi, fm, fv, fo, (fun z => nI (S z)), (fun z => nI (E z))) (nI T, xs, nI H, xw, yr, yf, yg, yl, yu, yi, yo, ya, yn, yk, on, fm, fv, (fun z => nI (S z)), (fun z => nI (E z)), mi, (fun z => nI (C z)), (fun z => nI (16 * I z + L z)), ad, (fun z => nI (B z)), bf, bd) :=
  ⟨D, H, xs, xw, xq, xi, xg, xb, xc, yr, yf, yg, yl, yu, yi, yo, ya, yn, yk, I, L, C, B, S, E, ad, bd, bf, mi, fm, fv, fo, on, rfl, rfl, G, P⟩
theorem wn_mk5 {k : Nat} (hT : T ≤ 400 * k) (G : wn_G T D H I L C B S E fo on) (P : wn_ph I C xw xq xi xg xb xc yr yf yg yl yu) : i_Rel (k + 5) (nI T, xs, nI D, xw, xq, xi, xg, xb, xc, (fun z => nI (I z)), (fun z => nI (L z)), ad, (fun z => nI (C z)), bf, bd, (fun z => nI (B z)), mi, fm, fv, fo, (fun z => nI (S z)), (fun z => nI (E z))) (nI T, xs, nI H, xw, yr, yf, yg, yl, yu, yi, yo, ya, yn, yk, on, fm, fv, (fun z => nI (S z)), (fun z => nI (E z)), mi, (fun z => nI (C z)), (fun z => nI (16 * I z + L z)), ad, (fun z => nI (B z)), bf, bd) :=
  ⟨T, by omega, wn_mk G P⟩
end
theorem wn_lit {a b : Nat} (h : a < b) (hb : b < 2 ^ 31) {x : Int32} (hx : nI b ≤ x) : ¬ x ≤ nI a := fun z => nI_ge h hb (Int32.le_trans hx z)
section
variable {yt ys ye yp yr yf yg yl yu yi yo ya yn yk : Int32} {on ma va se re ms ww wh bn bh : Nat → Int32} {wt bx : Nat → Int64}
variable {post : Int32 → Prop}
theorem wn_nodeXg {j : Nat} (hj : j < 4) (h : post 1) : wpX_isGoodNode post (nI j) := br_f (nI_pos (by omega)) (br_f (nI_ge (b := 4) hj (by decide)) h)
theorem wn_nodeXb {x : Int32} (hx : x < 0 ∨ nI 4 ≤ x) (h : post 0) : wpX_isGoodNode post x := br_c (fun _ => h) (fun z => br_t (hx.resolve_left z) h)
theorem wn_nodeYg {j : Nat} (hj : j < 4) (h : post 0) : wpY_badNode post (yt, ys, ye, yp, yr, yf, yg, yl, yu, yi, yo, ya, yn, yk, on, ma, va, se, re, ms, ww, wh, wt, bn, bh, bx) (nI j) := br_f (nI_pos (by omega)) (br_t (nI_le (b := 3) (by omega) (by decide)) h)
theorem wn_nodeYb {x : Int32} (hx : x < 0 ∨ nI 4 ≤ x) (h : post 1) : wpY_badNode post (yt, ys, ye, yp, yr, yf, yg, yl, yu, yi, yo, ya, yn, yk, on, ma, va, se, re, ms, ww, wh, wt, bn, bh, bx) x := br_c (fun _ => h) (fun z => br_f (wn_lit (a := 3) (by decide) (by decide) (hx.resolve_left z)) h)
theorem wn_idXg {j : Nat} (hj : j < 2048) (h : post 1) : wpX_isGoodId post (nI j) := br_f (nI_pos (by omega)) (br_f (nI_ge (b := 2048) hj (by decide)) h)
theorem wn_idXb {x : Int32} (hx : x < 0 ∨ nI 2048 ≤ x) (h : post 0) : wpX_isGoodId post x := br_c (fun _ => h) (fun z => br_t (hx.resolve_left z) h)
theorem wn_idYg {j : Nat} (hj : j < 2048) (h : post 0) : wpY_badId post (yt, ys, ye, yp, yr, yf, yg, yl, yu, yi, yo, ya, yn, yk, on, ma, va, se, re, ms, ww, wh, wt, bn, bh, bx) (nI j) := br_f (nI_pos (by omega)) (br_t (nI_le (b := 2047) (by omega) (by decide)) h)
theorem wn_idYb {x : Int32} (hx : x < 0 ∨ nI 2048 ≤ x) (h : post 1) : wpY_badId post (yt, ys, ye, yp, yr, yf, yg, yl, yu, yi, yo, ya, yn, yk, on, ma, va, se, re, ms, ww, wh, wt, bn, bh, bx) x := br_c (fun _ => h) (fun z => br_f (wn_lit (a := 2047) (by decide) (by decide) (hx.resolve_left z)) h)
theorem wn_lenXg {j : Nat} (hj : j ≤ 8) (h : post 1) : wpX_isGoodLength post (nI j) := br_f (nI_pos (by omega)) (br_f (nI_nlt (a := 8) hj (by decide)) h)
theorem wn_lenXb {x : Int32} (hx : x < 0 ∨ nI 9 ≤ x) (h : post 0) : wpX_isGoodLength post x := br_c (fun _ => h) (fun z => br_t (Int32.lt_of_lt_of_le (nI_lt (a := 8) (b := 9) (by decide) (by decide)) (hx.resolve_left z)) h)
end
theorem wn_ix (x : Int32) {n : Nat} (hn : n < 2 ^ 31) : (x < 0 ∨ nI n ≤ x) ∨ ∃ j : Nat, j < n ∧ x = nI j := by
  rcases pk_ix x hn with h | h | h
  · exact Or.inl (Or.inl h)
  · exact Or.inl (Or.inr h)
  · exact Or.inr h
