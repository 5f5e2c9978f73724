/-! one bit time, and run -/
section
variable {xt xs xe xw xq xi xg xb xc : Int32} {ai al ac bf bc mi fm fv fo es er : Nat → Int32} {ad bd : Nat → Int64}
variable {yt ys ye yp yr yf yg yl yu yi yo ya yn yk : Int32} {on ma va se re ms ww wh bn bh : Nat → Int32} {wt bx : Nat → Int64}
variable {I L C B S E : Nat → Nat} {p : Nat}
theorem wn_alone (hp : p < 16) (hO : ∀ i, i < 4 → (fo i = 0 ∧ on i = 1) ∨ (fo i = 1 ∧ on i = 0)) : ∀ d j, j + d = 4 → ∃ t : Bool,
      (∀ post : Int32 → Prop, post (if t then 1 else 0) → wX_isAnotherOn_2 post (nI (p / 4)) xt xs xe xw xq xi xg xb xc ai al ad ac bf bd bc mi fm fv fo es er (d + 1) (nI j)) ∧
      (∀ post : Int32 → Prop, post (if t then 0 else 1) → wY_isAlone_2 post yt ys ye yp yr (nI p) yg yl yu yi yo ya yn yk on ma va se re ms ww wh wt bn bh bx (d + 1) (nI j)) := by
  intro d
  induction d with
  | zero =>
    intro j hj
    have e : j = 4 := by omega
    subst e
    exact ⟨false, fun _ h => br_t (by decide) h, fun _ h => br_t (by decide) h⟩
  | succ d ih =>
    intro j hj
    obtain ⟨t, hX, hY⟩ := ih (j + 1) (by omega)
    have n4 : ¬ (4 : Int32) ≤ nI j := nI_ge (b := 4) (by omega) (by decide)
    have vj : vp_in (nI j) 4 := vp_in_nI (by omega) (by decide)
    have ec : (nI j).toNatClampNeg = j := nI_clamp (by omega)
    have eq := (wn_q p (by omega)).1
    by_cases e : j = p / 4
    · have e' : nI j = nI p / 4 := by rw [eq, e]
      exact ⟨t, fun post h => br_f n4 (br_t (congrArg nI e) (nm_r (nI_1 j) (hX post h))), fun post h => br_f n4 ⟨vj, br_c (fun _ => nm_r (nI_1 j) (hY post h)) (fun _ => ⟨by decide, br_t e' (nm_r (nI_1 j) (hY post h))⟩)⟩⟩
    have ne : ¬ nI j = nI (p / 4) := fun z => e ((nI_eq (by omega) (by omega)).mp z)
    have ne' : ¬ nI j = nI p / 4 := by rw [eq]; exact ne
    rcases hO j (by omega) with ⟨q1, q2⟩ | ⟨q1, q2⟩
    · exact ⟨true, fun post h => br_f n4 (br_f ne ⟨vj, br_t (by rw [ec]; exact q1) h⟩), fun post h => br_f n4 ⟨vj, br_f (by rw [ec, q2]; decide) ⟨by decide, br_f ne' h⟩⟩⟩
    · exact ⟨t, fun post h => br_f n4 (br_f ne ⟨vj, br_f (by rw [ec, q1]; decide) (nm_r (nI_1 j) (hX post h))⟩), fun post h => br_f n4 ⟨vj, br_t (by rw [ec]; exact q2) (nm_r (nI_1 j) (hY post h))⟩⟩
variable {g b q : Nat} {z : Int32}
/-- the place of the frame under way is found -/
theorem wn_pf {post : SX → Prop} {r : Int32} (hp : p < 16) (ht : wn_tk C p) (hI : ∀ i, I i < 2048) (hC : ∀ i, C i ≤ 4) (hd : wn_dis I C)
    (hb : ∀ pb : Int32 → Prop, pb r → wpX_isBrokenOff pb (xt, xs, xe, xw, xq, nI (I p), nI (g + 1), nI b, nI (q + 10), (fun z => nI (I z)), (fun z => nI (L z)), ad, (fun z => nI (C z)), bf, bd, (fun z => nI (B z)), mi, fm, fv, fo, (fun z => nI (S z)), (fun z => nI (E z))) (nI (p / 4)) z)
    (h : (r = 0 → ((nI (g + 1) = nI (q + 10) → wpX_finish post (xt, xs, xe, xw, xq, nI (I p), nI (g + 1), nI b, nI (q + 10), (fun z => nI (I z)), (fun z => nI (L z)), ad, (fun z => nI (C z)), bf, bd, (fun z => nI (B z)), mi, fm, fv, fo, (fun z => nI (S z)), (fun z => nI (E z))) (nI p) (nI (p / 4))) ∧ (¬ nI (g + 1) = nI (q + 10) → post (xt, xs, xe, xw, xq, nI (I p), nI (g + 1), nI b, nI (q + 10), (fun z => nI (I z)), (fun z => nI (L z)), ad, (fun z => nI (C z)), bf, bd, (fun z => nI (B z)), mi, fm, fv, fo, (fun z => nI (S z)), (fun z => nI (E z)))))) ∧ (¬ r = 0 → wpX_breakOff post (xt, xs, xe, xw, xq, nI (I p), nI (g + 1), nI b, nI (q + 10), (fun z => nI (I z)), (fun z => nI (L z)), ad, (fun z => nI (C z)), bf, bd, (fun z => nI (B z)), mi, fm, fv, fo, (fun z => nI (S z)), (fun z => nI (E z))) (nI (p / 4)))) :
    wpX_passFrameBit post (xt, xs, xe, xw, xq, nI (I p), nI g, nI b, nI (q + 10), (fun z => nI (I z)), (fun z => nI (L z)), ad, (fun z => nI (C z)), bf, bd, (fun z => nI (B z)), mi, fm, fv, fo, (fun z => nI (S z)), (fun z => nI (E z))) z := by
  have hm : (fun u : SX => match u with | (xt, xs, xe, xw, xq, xi, xg, xb, xc, ai, al, ad, ac, bf, bd, bc, mi, fm, fv, fo, es, er) => post (xt, xs, xe, xw, xq, xi, xg, xb, xc, ai, al, ad, ac, bf, bd, bc, mi, fm, fv, fo, es, er)) = post := by
    funext u
    obtain ⟨xt, xs, xe, xw, xq, xi, xg, xb, xc, ai, al, ad, ac, bf, bd, bc, mi, fm, fv, fo, es, er⟩ := u
    rfl
  unfold wpX_passFrameBit
  refine wn_findX hC hI (hI p) (fun p' hp' ht' e => ?_) (fun hn => absurd rfl (hn p hp ht))
  have ep : p' = p := hd p' p hp' hp ht' ht e
  subst ep
  refine br_f (wn_ne2 (by omega)) ⟨by decide, nm_r (wn_q p' (by omega)).1 (nm_r (nI_1 g) (hb _ ?_))⟩
  rw [hm]
  exact h
theorem wn_yb0 {T H : Nat} {post : SY → Prop} (hT : T < 2000000) (hH : H < 3000000) (hg : g < 10000) (hb : b < 10000) (hq : q < 10000) (hn : ¬ (H = T + 1 ∧ b < g + 1 ∧ g + 1 ≤ q + 1))
    (h : wY_nextBit_50 post 0 (nI (T + 1)) xs (nI H) xw yr yf (nI (g + 1)) (nI b) (nI q) yi yo ya yn yk on fm fv (fun z => nI (S z)) (fun z => nI (E z)) mi (fun z => nI (C z)) (fun z => nI (16 * I z + L z)) ad (fun z => nI (B z)) bf bd) : wpY_nextBit post (nI (T + 1), xs, nI H, xw, yr, yf, nI g, nI b, nI q, yi, yo, ya, yn, yk, on, fm, fv, (fun z => nI (S z)), (fun z => nI (E z)), mi, (fun z => nI (C z)), (fun z => nI (16 * I z + L z)), ad, (fun z => nI (B z)), bf, bd) := by
  unfold wpY_nextBit
  refine nm_r (nI_1 g) (pk_eq H (T + 1) (fun e1 => pk_le (g + 1) b (fun _ => h) (fun e2 => pk_lt (q + 1) (g + 1) (fun _ => h) (fun e3 => absurd ⟨e1, e2, e3⟩ hn) (nI_1 q) rfl (by omega) (by omega)) rfl rfl (by omega) (by omega)) (fun _ => h) rfl rfl (by omega) (by omega))
theorem wn_yb1 {T H : Nat} {post : SY → Prop} (hT : T < 2000000) (hH : H = T + 1) (hg : g < 10000) (hb : b < g + 1) (hq : q < 10000) (hn : g + 1 ≤ q + 1)
    (h : wpY_breakOff post (nI (T + 1), xs, nI H, xw, yr, yf, nI (g + 1), nI b, nI q, yi, yo, ya, yn, yk, on, fm, fv, (fun z => nI (S z)), (fun z => nI (E z)), mi, (fun z => nI (C z)), (fun z => nI (16 * I z + L z)), ad, (fun z => nI (B z)), bf, bd)) : wpY_nextBit post (nI (T + 1), xs, nI H, xw, yr, yf, nI g, nI b, nI q, yi, yo, ya, yn, yk, on, fm, fv, (fun z => nI (S z)), (fun z => nI (E z)), mi, (fun z => nI (C z)), (fun z => nI (16 * I z + L z)), ad, (fun z => nI (B z)), bf, bd) := by
  have hm : (fun u : SY => match u with | (yt, ys, ye, yp, yr, yf, yg, yl, yu, yi, yo, ya, yn, yk, on, ma, va, se, re, ms, ww, wh, wt, bn, bh, bx) => post (yt, ys, ye, yp, yr, yf, yg, yl, yu, yi, yo, ya, yn, yk, on, ma, va, se, re, ms, ww, wh, wt, bn, bh, bx)) = post := by
    funext u
    obtain ⟨yt, ys, ye, yp, yr, yf, yg, yl, yu, yi, yo, ya, yn, yk, on, ma, va, se, re, ms, ww, wh, wt, bn, bh, bx⟩ := u
    rfl
  unfold wpY_nextBit
  refine nm_r (nI_1 g) (br_t (congrArg nI hH) (br_f (nI_ge (by omega) (by omega)) (br_f (show ¬ nI q + 1 < nI (g + 1) by rw [nI_1]; exact nI_nlt (by omega) (by omega)) ?_)))
  unfold wY_nextBit_50
  refine br_f (by decide) ?_
  unfold wY_nextBit_75
  rw [hm]
  exact h
/-- what follows where the frame isn't hit -/
theorem wn_n82 {post : SY → Prop} (h : (yg = yu + 10 → wpY_finish post (yt, ys, ye, yp, yr, yf, yg, yl, yu, yi, yo, ya, yn, yk, on, ma, va, se, re, ms, ww, wh, wt, bn, bh, bx)) ∧ (¬ yg = yu + 10 → post (yt, ys, ye, yp, yr, yf, yg, yl, yu, yi, yo, ya, yn, yk, on, ma, va, se, re, ms, ww, wh, wt, bn, bh, bx))) : wY_nextBit_82 post yt ys ye yp yr yf yg yl yu yi yo ya yn yk on ma va se re ms ww wh wt bn bh bx := by
  have hm : (fun u : SY => match u with | (yt, ys, ye, yp, yr, yf, yg, yl, yu, yi, yo, ya, yn, yk, on, ma, va, se, re, ms, ww, wh, wt, bn, bh, bx) => post (yt, ys, ye, yp, yr, yf, yg, yl, yu, yi, yo, ya, yn, yk, on, ma, va, se, re, ms, ww, wh, wt, bn, bh, bx)) = post := by
    funext u
    obtain ⟨yt, ys, ye, yp, yr, yf, yg, yl, yu, yi, yo, ya, yn, yk, on, ma, va, se, re, ms, ww, wh, wt, bn, bh, bx⟩ := u
    rfl
  unfold wY_nextBit_82
  rw [hm]
  exact h
theorem wn_n75 {post : SY → Prop} (h : wpY_breakOff post (yt, ys, ye, yp, yr, yf, yg, yl, yu, yi, yo, ya, yn, yk, on, ma, va, se, re, ms, ww, wh, wt, bn, bh, bx)) : wY_nextBit_75 post yt ys ye yp yr yf yg yl yu yi yo ya yn yk on ma va se re ms ww wh wt bn bh bx := by
  have hm : (fun u : SY => match u with | (yt, ys, ye, yp, yr, yf, yg, yl, yu, yi, yo, ya, yn, yk, on, ma, va, se, re, ms, ww, wh, wt, bn, bh, bx) => post (yt, ys, ye, yp, yr, yf, yg, yl, yu, yi, yo, ya, yn, yk, on, ma, va, se, re, ms, ww, wh, wt, bn, bh, bx)) = post := by
    funext u
    obtain ⟨yt, ys, ye, yp, yr, yf, yg, yl, yu, yi, yo, ya, yn, yk, on, ma, va, se, re, ms, ww, wh, wt, bn, bh, bx⟩ := u
    rfl
  unfold wY_nextBit_75
  rw [hm]
  exact h
end
/-- the reference's bit time, at the hour that has come -/
def wn_st (post : SY → Prop) (v : SY) : Prop := match v with
  | (yt, ys, ye, yp, yr, yf, yg, yl, yu, yi, yo, ya, yn, yk, on, ma, va, se, re, ms, ww, wh, wt, bn, bh, bx) => (yp = 0 → wpY_begin post (yt, ys, ye, yp, yr, yf, yg, yl, yu, yi, yo, ya, yn, yk, on, ma, va, se, re, ms, ww, wh, wt, bn, bh, bx)) ∧ (¬ yp = 0 → ((yp = 1 → wpY_nextBit post (yt, ys, ye, yp, yr, yf, yg, yl, yu, yi, yo, ya, yn, yk, on, ma, va, se, re, ms, ww, wh, wt, bn, bh, bx)) ∧ (¬ yp = 1 → wpY_goOn post (yt, ys, ye, yp, yr, yf, yg, yl, yu, yi, yo, ya, yn, yk, on, ma, va, se, re, ms, ww, wh, wt, bn, bh, bx))))
section
variable {T D H : Nat} {xs xw xq xi xg xb xc yr yf yg yl yu yi yo ya yn yk : Int32} {I L C B S E : Nat → Nat} {ad bd : Nat → Int64} {bf mi fm fv fo on : Nat → Int32}
/-- a frame's next bit -/
theorem wn_bit1 {p g b q : Nat} {z : Int32} (hT : T < 2000000) (G : wn_G T D H I L C B S E fo on) (hz : (z = 1 ∧ H = T + 1) ∨ (z = 0 ∧ H ≠ T + 1)) (hp : p < 16) (ht : wn_tk C p) (hb : b ≤ 1000) (hq1 : 1 ≤ q) (hq : q ≤ 1000) (hg : g ≤ q + 9) :
    ∃ u' v', wn_R (T + 1) u' v' ∧ (∀ post : SX → Prop, post u' → wpX_passFrameBit post (nI (T + 1), xs, nI (D - 1), 1, xq, nI (I p), nI g, nI b, nI (q + 10), (fun z => nI (I z)), (fun z => nI (L z)), ad, (fun z => nI (C z)), bf, bd, (fun z => nI (B z)), mi, fm, fv, fo, (fun z => nI (S z)), (fun z => nI (E z))) z) ∧
      (∀ post : SY → Prop, post v' → wpY_nextBit post (nI (T + 1), xs, nI H, 1, yr, nI p, nI g, nI b, nI q, yi, yo, ya, yn, yk, on, fm, fv, (fun z => nI (S z)), (fun z => nI (E z)), mi, (fun z => nI (C z)), (fun z => nI (16 * I z + L z)), ad, (fun z => nI (B z)), bf, bd)) := by
  obtain ⟨⟨g1, g2, g3⟩, hI, hL, hC, hB, hS, hE, hO, hd⟩ := G
  have hH : H < 3000000 := by
    by_cases e : D = 0
    · have := g2 e; omega
    · have := g3 (by omega); omega
  have g1' : D - 1 ≤ 1000 ∧ (D - 1 = 0 → H ≤ T + 1) ∧ (0 < D - 1 → H = T + 1 + (D - 1)) := by
    by_cases e : D = 0
    · have := g2 e; omega
    · have := g3 (by omega); omega
  have hS1 : ∀ m, S m ≤ 8 * (T + 1) := fun m => by have := hS m; omega
  have keep : wn_R (T + 1) (nI (T + 1), xs, nI (D - 1), 1, xq, nI (I p), nI (g + 1), nI b, nI (q + 10), (fun z => nI (I z)), (fun z => nI (L z)), ad, (fun z => nI (C z)), bf, bd, (fun z => nI (B z)), mi, fm, fv, fo, (fun z => nI (S z)), (fun z => nI (E z))) (nI (T + 1), xs, nI H, 1, yr, nI p, nI (g + 1), nI b, nI q, yi, yo, ya, yn, yk, on, fm, fv, (fun z => nI (S z)), (fun z => nI (E z)), mi, (fun z => nI (C z)), (fun z => nI (16 * I z + L z)), ad, (fun z => nI (B z)), bf, bd) ∨ g + 1 = q + 10 := by
    by_cases e : g + 1 = q + 10
    · exact Or.inr e
    · exact Or.inl (wn_mk ⟨g1', hI, hL, hC, hB, hS1, hE, hO, hd⟩ (Or.inr (Or.inl ⟨rfl, p, g + 1, b, q, hp, ht, rfl, rfl, rfl, rfl, rfl, rfl, rfl, rfl, hb, hq1, hq, by omega⟩)))
  obtain ⟨S', E', fo', on', k1, k2, k3, kX, kY⟩ := wn_brk (I := I) (L := L) (C := C) (B := B) (xt := nI (T + 1)) (xs := xs) (xe := nI (D - 1)) (xw := 1) (xq := xq) (xi := nI (I p)) (xg := nI (g + 1)) (xb := nI b) (xc := nI (q + 10)) (ye := nI H) (yr := yr) (yg := nI (g + 1)) (yl := nI b) (yu := nI q) (yi := yi) (yo := yo) (ya := ya) (yn := yn) (yk := yk) (ad := ad) (bd := bd) (bf := bf) (mi := mi) (fm := fm) (fv := fv) (s := 8 * T) hp hS (by omega) hE hO
  have brk : wn_R (T + 1) (nI (T + 1), xs, nI (D - 1), 2, nI 14, nI (I p), nI (g + 1), nI b, nI (q + 10), (fun z => nI (I z)), (fun z => nI (L z)), ad, (fun z => nI (C z)), bf, bd, (fun z => nI (B z)), mi, fm, fv, fo', (fun z => nI (S' z)), (fun z => nI (E' z))) (nI (T + 1), xs, nI H, 2, nI 14, nI p, nI (g + 1), nI b, nI q, yi, yo, ya, yn, yk, on', fm, fv, (fun z => nI (S' z)), (fun z => nI (E' z)), mi, (fun z => nI (C z)), (fun z => nI (16 * I z + L z)), ad, (fun z => nI (B z)), bf, bd) :=
    wn_mk ⟨g1', hI, hL, hC, hB, fun m => by have := k1 m; omega, k2, k3, hd⟩ (Or.inr (Or.inr ⟨Or.inl rfl, 14, by decide, by decide, rfl, rfl⟩))
  have e8 : nI (q + 10) - 8 = nI (q + 2) := (pk_sub (b := 8) (by omega)).trans (congrArg nI (by omega))
  have e9 : nI (q + 10) - 9 = nI (q + 1) := (pk_sub (b := 9) (by omega)).trans (congrArg nI (by omega))
  have e2 : nI q + 2 = nI (q + 2) := nI_add q 2
  have e10 : nI q + 10 = nI (q + 10) := nI_add q 10
  by_cases hA : g + 1 = q + 2
  · have hk := keep.resolve_right (by omega)
    have nh : ¬ (H = T + 1 ∧ b < g + 1 ∧ g + 1 ≤ q + 1) := by omega
    obtain ⟨t, aX, aY⟩ := wn_alone (xt := nI (T + 1)) (xs := xs) (xe := nI (D - 1)) (xw := 1) (xq := xq) (xi := nI (I p)) (xg := nI (g + 1)) (xb := nI b) (xc := nI (q + 10)) (ai := fun z => nI (I z)) (al := fun z => nI (L z)) (ad := ad) (ac := fun z => nI (C z)) (bf := bf) (bd := bd) (bc := fun z => nI (B z)) (mi := mi) (fm := fm) (fv := fv) (es := fun z => nI (S z)) (er := fun z => nI (E z))
      (yt := nI (T + 1)) (ys := xs) (ye := nI H) (yp := 1) (yr := yr) (yg := nI (g + 1)) (yl := nI b) (yu := nI q) (yi := yi) (yo := yo) (ya := ya) (yn := yn) (yk := yk) (ma := fm) (va := fv) (se := fun z => nI (S z)) (re := fun z => nI (E z)) (ms := mi) (ww := fun z => nI (C z)) (wh := fun z => nI (16 * I z + L z)) (wt := ad) (bn := fun z => nI (B z)) (bh := bf) (bx := bd) hp hO 4 0 rfl
    cases t with
    | true =>
      refine ⟨_, _, hk, fun post h => wn_pf (r := 0) hp ht hI hC hd (fun pb h2 => ?_) (br_t rfl (br_f (fun w => by have := (nI_eq (by omega) (by omega)).mp w; omega) h)), fun post h => wn_yb0 hT hH (by omega) (by omega) (by omega) nh ?_⟩
      · unfold wpX_isBrokenOff
        exact br_t (by rw [e8, hA]) ⟨5, aX _ (br_f (by decide) h2)⟩
      · unfold wY_nextBit_50
        exact br_t rfl (br_t (by rw [e2, hA]) ⟨5, aY _ (br_t rfl (wn_n82 (br_f (by rw [e10]; exact fun w => by have := (nI_eq (by omega) (by omega)).mp w; omega) h)))⟩)
    | false =>
      refine ⟨_, _, brk, fun post h => wn_pf (r := 1) hp ht hI hC hd (fun pb h2 => ?_) (br_f (by decide) (kX post h)), fun post h => wn_yb0 hT hH (by omega) (by omega) (by omega) nh ?_⟩
      · unfold wpX_isBrokenOff
        exact br_t (by rw [e8, hA]) ⟨5, aX _ (br_t rfl h2)⟩
      · unfold wY_nextBit_50
        exact br_t rfl (br_t (by rw [e2, hA]) ⟨5, aY _ (br_f (by decide) (wn_n75 (kY post h)))⟩)
  have hA8 : ¬ nI (g + 1) = nI (q + 10) - 8 := by rw [e8]; exact fun w => hA ((nI_eq (by omega) (by omega)).mp w)
  have hA2 : ¬ nI (g + 1) = nI q + 2 := by rw [e2]; exact fun w => hA ((nI_eq (by omega) (by omega)).mp w)
  by_cases hit : z = 1 ∧ b < g + 1 ∧ g + 1 ≤ q + 1
  · obtain ⟨z1, z2, z3⟩ := hit
    have hH1 : H = T + 1 := by
      rcases hz with w | w
      · exact w.2
      · rw [z1] at w
        exact absurd w.1 (by decide)
    refine ⟨_, _, brk, fun post h => wn_pf (r := 1) hp ht hI hC hd (fun pb h2 => ?_) (br_f (by decide) (kX post h)), fun post h => wn_yb1 hT hH1 (by omega) z2 (by omega) z3 (kY post h)⟩
    unfold wpX_isBrokenOff
    exact br_f hA8 (br_f (by rw [z1]; decide) (br_f (nI_ge z2 (by omega)) (br_f (by rw [e9]; exact nI_nlt z3 (by omega)) h2)))
  · have nh : ¬ (H = T + 1 ∧ b < g + 1 ∧ g + 1 ≤ q + 1) := by
      rcases hz with w | w
      · exact fun y => hit ⟨w.1, y.2⟩
      · exact fun y => w.2 y.1
    have hbX : ∀ pb : Int32 → Prop, pb 0 → wpX_isBrokenOff pb (nI (T + 1), xs, nI (D - 1), 1, xq, nI (I p), nI (g + 1), nI b, nI (q + 10), (fun z => nI (I z)), (fun z => nI (L z)), ad, (fun z => nI (C z)), bf, bd, (fun z => nI (B z)), mi, fm, fv, fo, (fun z => nI (S z)), (fun z => nI (E z))) (nI (p / 4)) z := by
      intro pb h2
      unfold wpX_isBrokenOff
      refine br_f hA8 (br_c (fun _ => h2) (fun w0 => pk_le (g + 1) b (fun _ => h2) (fun w1 => pk_lt (q + 1) (g + 1) (fun _ => h2) (fun w2 => ?_) e9 rfl (by omega) (by omega)) rfl rfl (by omega) (by omega)))
      rcases hz with w | w
      · exact absurd ⟨w.1, w1, w2⟩ hit
      · exact absurd w.1 w0
    by_cases hF : g + 1 = q + 10
    · obtain ⟨S', E', B', bf', mi', bd', f1, f2, f3, fX, fY⟩ := wn_fin (xt := nI (T + 1)) (xs := xs) (xe := nI (D - 1)) (xw := 1) (xq := xq) (xi := nI (I p)) (xg := nI (g + 1)) (xb := nI b) (xc := nI (q + 10)) (ye := nI H) (yr := yr) (yg := nI (g + 1)) (yl := nI b) (yu := nI q) (yi := yi) (yo := yo) (ya := ya) (yn := yn) (yk := yk) (ad := ad) (bd := bd) (bf := bf) (mi := mi) (fm := fm) (fv := fv) (s := 8 * T) hp ht hI hL hC hB hS (by omega) hE hO
      have fin : wn_R (T + 1) (nI (T + 1), xs + 1, nI (D - 1), 3, nI 3, nI (I p), nI (g + 1), nI b, nI (q + 10), (fun z => nI ((wn_shf p (wn_end C p) I) z)), (fun z => nI ((wn_shf p (wn_end C p) L) z)), wn_shf p (wn_end C p) ad, (fun z => nI ((wn_C1 C (p / 4)) z)), bf', bd', (fun z => nI (B' z)), mi', fm, fv, fo, (fun z => nI (S' z)), (fun z => nI (E' z))) (nI (T + 1), xs + 1, nI H, 3, nI 3, nI p, nI (g + 1), nI b, nI q, yi, yo, ya, yn, yk, on, fm, fv, (fun z => nI (S' z)), (fun z => nI (E' z)), mi', (fun z => nI ((wn_C1 C (p / 4)) z)), (fun z => nI (16 * (wn_shf p (wn_end C p) I) z + (wn_shf p (wn_end C p) L) z)), wn_shf p (wn_end C p) ad, (fun z => nI (B' z)), bf', bd') :=
        wn_mk ⟨g1', wn_shf_lt hI, wn_shf_le hL, wn_C1_le hC, f3, fun m => by have := f1 m; omega, f2, hO, wn_dis_rm hC hp ht hd⟩ (Or.inr (Or.inr ⟨Or.inr rfl, 3, by decide, by decide, rfl, rfl⟩))
      refine ⟨_, _, fin, fun post h => wn_pf (r := 0) hp ht hI hC hd hbX (br_t rfl (br_t (congrArg nI hF) (fX post h))), fun post h => wn_yb0 hT hH (by omega) (by omega) (by omega) nh ?_⟩
      unfold wY_nextBit_50
      exact br_t rfl (br_f hA2 (wn_n82 (br_t (by rw [e10, hF]) (fY post h))))
    · have hk := keep.resolve_right hF
      have nF : ¬ nI (g + 1) = nI (q + 10) := fun w => hF ((nI_eq (by omega) (by omega)).mp w)
      refine ⟨_, _, hk, fun post h => wn_pf (r := 0) hp ht hI hC hd hbX (br_t rfl (br_f nF h)), fun post h => wn_yb0 hT hH (by omega) (by omega) (by omega) nh ?_⟩
      unfold wY_nextBit_50
      exact br_t rfl (br_f hA2 (wn_n82 (br_f (by rw [e10]; exact nF) h)))
end
