/-! the beginning of a frame, quiet bits, a whole bit time, run -/
section
variable {xt xs xe xw xq xi xg xb xc : Int32} {ai al ac bf bc mi fm fv fo es er : Nat → Int32} {ad bd : Nat → Int64}
theorem wn_mX {post : SX → Prop} : (fun u : SX => match u with | (xt, xs, xe, xw, xq, xi, xg, xb, xc, ai, al, ad, ac, bf, bd, bc, mi, fm, fv, fo, es, er) => post (xt, xs, xe, xw, xq, xi, xg, xb, xc, ai, al, ad, ac, bf, bd, bc, mi, fm, fv, fo, es, er)) = post := by
  funext u
  obtain ⟨xt, xs, xe, xw, xq, xi, xg, xb, xc, ai, al, ad, ac, bf, bd, bc, mi, fm, fv, fo, es, er⟩ := u
  rfl
end
section
variable {T D H : Nat} {xs xw xq xi xg xb xc yr yf yg yl yu yi yo ya yn yk : Int32} {I L C B S E : Nat → Nat} {ad bd : Nat → Int64} {bf mi fm fv fo on : Nat → Int32}
theorem wn_g1 (G : wn_G T D H I L C B S E fo on) : D - 1 ≤ 1000 ∧ (D - 1 = 0 → H ≤ T + 1) ∧ (0 < D - 1 → H = T + 1 + (D - 1)) := by
  obtain ⟨⟨g1, g2, g3⟩, hI, hL, hC, hB, hS, hE, hO, hd⟩ := G
  by_cases e : D = 0
  · have := g2 e; omega
  · have := g3 (by omega); omega
theorem wn_G1 (G : wn_G T D H I L C B S E fo on) : wn_G (T + 1) (D - 1) H I L C B S E fo on := by
  have := wn_g1 G
  obtain ⟨⟨g1, g2, g3⟩, hI, hL, hC, hB, hS, hE, hO, hd⟩ := G
  exact ⟨this, hI, hL, hC, hB, fun m => by have := hS m; omega, hE, hO, hd⟩
/-- complaint and pause -/
theorem wn_quiet {r : Nat} (G : wn_G T D H I L C B S E fo on) (hw : xw = 2 ∨ xw = 3) (hr1 : 1 ≤ r) (hr : r ≤ 14) :
    ∃ u' v', wn_R (T + 1) u' v' ∧ (∀ post : SX → Prop, post u' → wpX_passQuietBit post (nI (T + 1), xs, nI (D - 1), xw, nI r, xi, xg, xb, xc, (fun z => nI (I z)), (fun z => nI (L z)), ad, (fun z => nI (C z)), bf, bd, (fun z => nI (B z)), mi, fm, fv, fo, (fun z => nI (S z)), (fun z => nI (E z)))) ∧
      (∀ post : SY → Prop, post v' → wpY_goOn post (nI (T + 1), xs, nI H, xw, nI r, yf, yg, yl, yu, yi, yo, ya, yn, yk, on, fm, fv, (fun z => nI (S z)), (fun z => nI (E z)), mi, (fun z => nI (C z)), (fun z => nI (16 * I z + L z)), ad, (fun z => nI (B z)), bf, bd)) := by
  have G1 := wn_G1 G
  have e1 : nI r - 1 = nI (r - 1) := pk_sub (b := 1) hr1
  by_cases h1 : r = 1
  · subst h1
    rcases hw with rfl | rfl
    · refine ⟨(nI (T + 1), xs, nI (D - 1), 3, nI 3, xi, xg, xb, xc, (fun z => nI (I z)), (fun z => nI (L z)), ad, (fun z => nI (C z)), bf, bd, (fun z => nI (B z)), mi, fm, fv, fo, (fun z => nI (S z)), (fun z => nI (E z))), (nI (T + 1), xs, nI H, 3, nI 3, yf, yg, yl, yu, yi, yo, ya, yn, yk, on, fm, fv, (fun z => nI (S z)), (fun z => nI (E z)), mi, (fun z => nI (C z)), (fun z => nI (16 * I z + L z)), ad, (fun z => nI (B z)), bf, bd), wn_mk G1 (Or.inr (Or.inr ⟨Or.inr rfl, 3, by decide, by decide, rfl, rfl⟩)), fun post h => ?_, fun post h => ?_⟩
      · exact nm_r e1 (br_t (by decide) (br_t rfl h))
      · exact nm_r e1 (br_t (by decide) (br_t rfl (br_t rfl h)))
    · refine ⟨(nI (T + 1), xs, nI (D - 1), 0, nI 0, xi, xg, xb, xc, (fun z => nI (I z)), (fun z => nI (L z)), ad, (fun z => nI (C z)), bf, bd, (fun z => nI (B z)), mi, fm, fv, fo, (fun z => nI (S z)), (fun z => nI (E z))), (nI (T + 1), xs, nI H, 0, nI 0, yf, yg, yl, yu, yi, yo, ya, yn, yk, on, fm, fv, (fun z => nI (S z)), (fun z => nI (E z)), mi, (fun z => nI (C z)), (fun z => nI (16 * I z + L z)), ad, (fun z => nI (B z)), bf, bd), wn_mk G1 (Or.inl rfl), fun post h => ?_, fun post h => ?_⟩
      · exact nm_r e1 (br_t (by decide) (br_f (by decide) h))
      · exact nm_r e1 (br_t (by decide) (br_f (by decide) (br_f (by decide) h)))
  · refine ⟨(nI (T + 1), xs, nI (D - 1), xw, nI (r - 1), xi, xg, xb, xc, (fun z => nI (I z)), (fun z => nI (L z)), ad, (fun z => nI (C z)), bf, bd, (fun z => nI (B z)), mi, fm, fv, fo, (fun z => nI (S z)), (fun z => nI (E z))), (nI (T + 1), xs, nI H, xw, nI (r - 1), yf, yg, yl, yu, yi, yo, ya, yn, yk, on, fm, fv, (fun z => nI (S z)), (fun z => nI (E z)), mi, (fun z => nI (C z)), (fun z => nI (16 * I z + L z)), ad, (fun z => nI (B z)), bf, bd), wn_mk G1 (Or.inr (Or.inr ⟨hw, r - 1, by omega, by omega, rfl, rfl⟩)), fun post h => ?_, fun post h => ?_⟩
    · exact nm_r e1 (br_f (nI_nle (by omega) (by omega)) h)
    · exact nm_r e1 (br_f (nI_ne0 (by omega) (by omega)) h)
/-- an idle wire -/
theorem wn_idle {z : Int32} (hT : T < 2000000) (G : wn_G T D H I L C B S E fo on) :
    ∃ u' v', wn_R (T + 1) u' v' ∧ (∀ post : SX → Prop, post u' → wX_passBitTime_41 post z (nI (T + 1)) xs (nI (D - 1)) 0 xq xi xg xb xc (fun z => nI (I z)) (fun z => nI (L z)) ad (fun z => nI (C z)) bf bd (fun z => nI (B z)) mi fm fv fo (fun z => nI (S z)) (fun z => nI (E z))) ∧
      (∀ post : SY → Prop, post v' → wpY_begin post (nI (T + 1), xs, nI H, 0, yr, yf, yg, yl, yu, yi, yo, ya, yn, yk, on, fm, fv, (fun z => nI (S z)), (fun z => nI (E z)), mi, (fun z => nI (C z)), (fun z => nI (16 * I z + L z)), ad, (fun z => nI (B z)), bf, bd)) := by
  have G1 := wn_G1 G
  obtain ⟨⟨g1, g2, g3⟩, hI, hL, hC, hB, hS, hE, hO, hd⟩ := G
  obtain ⟨o, h1, hX, hY⟩ := wn_most (xt := nI (T + 1)) (xs := xs) (xe := nI (D - 1)) (xw := 0) (xq := xq) (xi := xi) (xg := xg) (xb := xb) (xc := xc) (al := fun z => nI (L z)) (ad := ad) (bf := bf) (bd := bd) (bc := fun z => nI (B z)) (mi := mi) (fm := fm) (fv := fv) (es := fun z => nI (S z)) (er := fun z => nI (E z))
      (yt := nI (T + 1)) (ys := xs) (ye := nI H) (yp := 0) (yr := yr) (yf := yf) (yg := yg) (yl := yl) (yu := yu) (yi := yi) (yo := yo) (ya := ya) (yn := yn) (yk := yk) (ma := fm) (va := fv) (se := fun z => nI (S z)) (re := fun z => nI (E z)) (ms := mi) (wt := ad) (bn := fun z => nI (B z)) (bh := bf) (bx := bd) hI hL hC hd hO 16 0 rfl none (fun b hb => nomatch hb)
  match o, h1, hX, hY with
  | none, h1, hX, hY =>
    refine ⟨(nI (T + 1), xs, nI (D - 1), 0, xq, xi, xg, xb, xc, (fun z => nI (I z)), (fun z => nI (L z)), ad, (fun z => nI (C z)), bf, bd, (fun z => nI (B z)), mi, fm, fv, fo, (fun z => nI (S z)), (fun z => nI (E z))), (nI (T + 1), xs, nI H, 0, yr, -1, yg, yl, yu, yi, yo, ya, yn, yk, on, fm, fv, (fun z => nI (S z)), (fun z => nI (E z)), mi, (fun z => nI (C z)), (fun z => nI (16 * I z + L z)), ad, (fun z => nI (B z)), bf, bd), wn_mk G1 (Or.inl rfl), fun post h => ?_, fun post h => ?_⟩
    · unfold wX_passBitTime_41
      refine br_t rfl ?_
      unfold wpX_beginMostUrgent
      refine ⟨17, hX _ (br_t rfl ?_)⟩
      exact br_f (by decide) (br_t rfl h)
    · unfold wpY_begin
      exact ⟨17, hY _ (br_t wn_neg h)⟩
  | some p, h1, hX, hY =>
    obtain ⟨hp, ht⟩ := h1 p rfl
    have vp : vp_in (nI p) 16 := vp_in_nI hp (by decide)
    have ec : (nI p).toNatClampNeg = p := nI_clamp (by omega)
    obtain ⟨n, hn, en⟩ := wb_of (ad (nI p).toNatClampNeg)
    have ha := hI p
    have hl := hL p
    obtain ⟨N, hN⟩ : ∃ N, N = wn_C (wn_b (I p) (L p) n 0) (19 + 8 * L p) := ⟨_, rfl⟩
    obtain ⟨F, hF⟩ : ∃ F, F = wn_b (I p) (L p) n N := ⟨_, rfl⟩
    have hF1 : ∀ j, F j ≤ 1 := fun j => by rw [hF]; exact wn_b_le _ _ _ _ _
    have hN1 : N < 32768 := by rw [hN]; exact wn_C_lt _ _
    obtain ⟨a1, a2, -, -⟩ := wn_P_ok hF1 12
    obtain ⟨b1, b2, -, -⟩ := wn_P_ok hF1 (34 + 8 * L p)
    have e34 : (19 : Int32) + 8 * nI (L p) + 15 = nI (34 + 8 * L p) := by
      rw [wn_19]
      exact (nI_add _ 15).trans (congrArg nI (by omega))
    have fin : wn_R (T + 1) (nI (T + 1), xs, nI (D - 1), 1, xq, nI (I p), nI 1, nI (wn_P F 12).1, nI ((wn_P F (34 + 8 * L p)).1 + 10), (fun z => nI (I z)), (fun z => nI (L z)), ad, (fun z => nI (C z)), bf, bd, (fun z => nI (B z)), mi, fm, fv, fo, (fun z => nI (S z)), (fun z => nI (E z))) (nI (T + 1), xs, nI H, 1, yr, nI p, nI 1, nI (wn_P F 12).1, nI (wn_P F (34 + 8 * L p)).1, nI (wn_P F 12).1, nI (wn_P F (34 + 8 * L p)).1, nI (wn_P F (34 + 8 * L p)).2.1, nI (wn_P F (34 + 8 * L p)).2.2, nI N, on, fm, fv, (fun z => nI (S z)), (fun z => nI (E z)), mi, (fun z => nI (C z)), (fun z => nI (16 * I z + L z)), ad, (fun z => nI (B z)), bf, bd) :=
      wn_mk G1 (Or.inr (Or.inl ⟨rfl, p, 1, (wn_P F 12).1, (wn_P F (34 + 8 * L p)).1, hp, ht, rfl, rfl, rfl, rfl, rfl, rfl, rfl, rfl, by omega, by omega, by omega, by omega⟩))
    refine ⟨_, _, fin, fun post h => ?_, fun post h => ?_⟩
    · unfold wX_passBitTime_41
      refine br_t rfl ?_
      unfold wpX_beginMostUrgent
      refine ⟨17, hX _ (br_f (wn_ne2 (by omega)) ⟨vp, nm_r (wn_at I (by omega)) ⟨vp, nm_r (wn_at L (by omega)) ⟨vp, nm_r en (wn_check ha hl hn ?_)⟩⟩⟩)⟩
      rw [← hN]
      refine nm_r e34 (wn_out (N := 12) ha hl hn hN1 (by omega) (wn_out (N := 34 + 8 * L p) ha hl hn hN1 (Nat.le_refl _) ?_))
      rw [← hF]
      refine nm_r (nI_add _ 10) ?_
      unfold wX_passBitTime_52
      refine br_t rfl ?_
      rw [wn_mX]
      refine wn_pf (g := 0) (r := 0) hp ht hI hC hd (fun pb h2 => ?_) (br_t rfl (br_f (fun w => by have := (nI_eq (by omega) (by omega)).mp w; omega) h))
      unfold wpX_isBrokenOff
      refine br_f ?_ (br_c (fun _ => h2) (fun _ => br_t (nI_le (a := 1) (by omega) (by omega)) h2))
      rw [show nI ((wn_P F (34 + 8 * L p)).1 + 10) - 8 = nI ((wn_P F (34 + 8 * L p)).1 + 2) from (pk_sub (b := 8) (by omega)).trans (congrArg nI (by omega))]
      exact fun w => by have := (nI_eq (by omega) (by omega)).mp w; omega
    · unfold wpY_begin
      refine ⟨17, hY _ (br_f (nI_pos (by omega)) ⟨vp, by decide, vp, by decide, vp, ?_⟩)⟩
      have q1 : nI (16 * I (nI p).toNatClampNeg + L (nI p).toNatClampNeg) / 16 = nI (I p) := by rw [ec]; exact (wn_h16 ha hl).1
      have q2 : nI (16 * I (nI p).toNatClampNeg + L (nI p).toNatClampNeg) - nI (16 * I (nI p).toNatClampNeg + L (nI p).toNatClampNeg) / 16 * 16 = nI (L p) := by rw [ec]; exact (wn_h16 ha hl).2
      dsimp only [wn_oy]
      rw [q2, q1, en]
      exact wn_meas ha hl hn hN hF h
end
theorem wn_bit {T : Nat} {u : SX} {v : SY} (I : wn_R T u v) (hT : T < 2000000) : ∃ u' v', wn_R (T + 1) u' v' ∧ (∀ post : SX → Prop, post u' → wpX_passBitTime post u) ∧
      (∀ post : SY → Prop, post v' → wn_st post (v.1 + 1, v.2)) := by
  obtain ⟨D, H, xs, xw, xq, xi, xg, xb, xc, yr, yf, yg, yl, yu, yi, yo, ya, yn, yk, I, L, C, B, S, E, ad, bd, bf, mi, fm, fv, fo, on, rfl, rfl, G, P⟩ := I
  obtain ⟨z, hz, st⟩ : ∃ z : Int32, ((z = 1 ∧ H = T + 1) ∨ (z = 0 ∧ H ≠ T + 1)) ∧ (∀ post : SX → Prop, wX_passBitTime_41 post z (nI (T + 1)) xs (nI (D - 1)) xw xq xi xg xb xc (fun z => nI (I z)) (fun z => nI (L z)) ad (fun z => nI (C z)) bf bd (fun z => nI (B z)) mi fm fv fo (fun z => nI (S z)) (fun z => nI (E z)) → wpX_passBitTime post (nI T, xs, nI D, xw, xq, xi, xg, xb, xc, (fun z => nI (I z)), (fun z => nI (L z)), ad, (fun z => nI (C z)), bf, bd, (fun z => nI (B z)), mi, fm, fv, fo, (fun z => nI (S z)), (fun z => nI (E z)))) := by
    obtain ⟨⟨g1, g2, g3⟩, -⟩ := G
    by_cases d1 : D = 1
    · subst d1
      have := g3 (by omega)
      refine ⟨1, Or.inl ⟨rfl, this⟩, fun post h => ?_⟩
      unfold wpX_passBitTime
      refine nm_r (nI_1 T) (br_t rfl ?_)
      unfold wX_passBitTime_23
      exact br_f (by decide) (nm_r (pk_sub (a := 1) (b := 1) (by omega)) h)
    · refine ⟨0, Or.inr ⟨rfl, ?_⟩, fun post h => ?_⟩
      · by_cases e : D = 0
        · have := g2 e; omega
        · have := g3 (by omega); omega
      · unfold wpX_passBitTime
        refine nm_r (nI_1 T) (br_f (fun w => d1 ((nI_eq (b := 1) (by omega) (by decide)).mp w)) ?_)
        unfold wX_passBitTime_23
        by_cases e : D = 0
        · subst e
          exact br_t (by decide) h
        · exact br_f (nI_nle (by omega) (by omega)) (nm_r (pk_sub (b := 1) (by omega)) h)
  have key : ∃ u' v', wn_R (T + 1) u' v' ∧ (∀ post : SX → Prop, post u' → wX_passBitTime_41 post z (nI (T + 1)) xs (nI (D - 1)) xw xq xi xg xb xc (fun z => nI (I z)) (fun z => nI (L z)) ad (fun z => nI (C z)) bf bd (fun z => nI (B z)) mi fm fv fo (fun z => nI (S z)) (fun z => nI (E z))) ∧ (∀ post : SY → Prop, post v' → wn_st post (nI (T + 1), xs, nI H, xw, yr, yf, yg, yl, yu, yi, yo, ya, yn, yk, on, fm, fv, (fun z => nI (S z)), (fun z => nI (E z)), mi, (fun z => nI (C z)), (fun z => nI (16 * I z + L z)), ad, (fun z => nI (B z)), bf, bd)) := by
    rcases P with rfl | ⟨rfl, p, g, b, q, hp, ht, rfl, rfl, rfl, rfl, rfl, rfl, rfl, rfl, hb, hq1, hq, hg⟩ | ⟨hw, r, hr1, hr, rfl, rfl⟩
    · obtain ⟨u', v', R, X1, Y1⟩ := wn_idle (z := z) hT G
      exact ⟨u', v', R, X1, fun post h => br_t rfl (Y1 post h)⟩
    · obtain ⟨u', v', R, X1, Y1⟩ := wn_bit1 hT G hz hp ht hb hq1 hq hg
      refine ⟨u', v', R, fun post h => ?_, fun post h => br_f (by decide) (br_t rfl (Y1 post h))⟩
      unfold wX_passBitTime_41 wX_passBitTime_52
      refine br_f (by decide) (br_t rfl ?_)
      rw [wn_mX]
      exact X1 post h
    · obtain ⟨u', v', R, X1, Y1⟩ := wn_quiet G hw hr1 hr
      have h0 : ¬ xw = 0 := by rcases hw with rfl | rfl <;> decide
      have h1 : ¬ xw = 1 := by rcases hw with rfl | rfl <;> decide
      refine ⟨u', v', R, fun post h => ?_, fun post h => br_f h0 (br_f h1 (Y1 post h))⟩
      unfold wX_passBitTime_41 wX_passBitTime_52
      refine br_f h0 (br_f h1 (br_f h0 ?_))
      rw [wn_mX]
      exact X1 post h
  obtain ⟨u', v', R, X1, Y1⟩ := key
  refine ⟨u', v', R, fun post h => st post (X1 post h), fun post h => ?_⟩
  have := Y1 post h
  rw [← nI_1 T] at this
  exact this
def wn_XR (post : Int32 → SX → Prop) (x1 x2 : Int32) (n : Nat) (x3 : Int32) (u : SX) : Prop := match u with
  | (xt, xs, xe, xw, xq, xi, xg, xb, xc, ai, al, ad, ac, bf, bd, bc, mi, fm, fv, fo, es, er) => wX_run_20 post x1 x2 n x3 xt xs xe xw xq xi xg xb xc ai al ad ac bf bd bc mi fm fv fo es er
def wn_YR (post : Int32 → SY → Prop) (x1 x2 : Int32) (n : Nat) (x3 : Int32) (v : SY) : Prop := match v with
  | (yt, ys, ye, yp, yr, yf, yg, yl, yu, yi, yo, ya, yn, yk, on, ma, va, se, re, ms, ww, wh, wt, bn, bh, bx) => wY_run_20 post x1 x2 n x3 yt ys ye yp yr yf yg yl yu yi yo ya yn yk on ma va se re ms ww wh wt bn bh bx
theorem wn_runL {b : Nat} (hb : b ≤ 2000) : ∀ d j T (u : SX) (v : SY), j + d = b → wn_R T u v → T + d < 2000000 → ∃ u' v', wn_R (T + d) u' v' ∧
      (∀ (x2 : Int32) (post : Int32 → SX → Prop), post (u'.2.1 - x2) u' → wn_XR post (nI b) x2 (d + 1) (nI j) u) ∧
      (∀ (x2 : Int32) (post : Int32 → SY → Prop), post (v'.2.1 - x2) v' → wn_YR post (nI b) x2 (d + 1) (nI j) v) := by
  intro d
  induction d with
  | zero =>
    intro j T u v hj R hT
    have le : nI b ≤ nI j := nI_le (by omega) (by omega)
    refine ⟨u, v, R, fun x2 post h => ?_, fun x2 post h => ?_⟩
    · obtain ⟨uxt, uxs, uxe, uxw, uxq, uxi, uxg, uxb, uxc, uai, ual, uad, uac, ubf, ubd, ubc, umi, ufm, ufv, ufo, ues, uer⟩ := u
      exact br_t le h
    · obtain ⟨vyt, vys, vye, vyp, vyr, vyf, vyg, vyl, vyu, vyi, vyo, vya, vyn, vyk, von, vma, vva, vse, vre, vms, vww, vwh, vwt, vbn, vbh, vbx⟩ := v
      exact br_t le h
  | succ d ih =>
    intro j T u v hj R hT
    obtain ⟨u1, v1, R1, bX, bY⟩ := wn_bit R (by omega)
    obtain ⟨u', v', R', hX, hY⟩ := ih (j + 1) (T + 1) u1 v1 (by omega) R1 (by omega)
    have nl : ¬ nI b ≤ nI j := nI_ge (by omega) (by omega)
    refine ⟨u', v', by rw [show T + (d + 1) = T + 1 + d by omega]; exact R', fun x2 post h => ?_, fun x2 post h => ?_⟩
    · have k := hX x2 post h
      obtain ⟨uxt, uxs, uxe, uxw, uxq, uxi, uxg, uxb, uxc, uai, ual, uad, uac, ubf, ubd, ubc, umi, ufm, ufv, ufo, ues, uer⟩ := u
      refine br_f nl (bX _ ?_)
      obtain ⟨xt, xs, xe, xw, xq, xi, xg, xb, xc, ai, al, ad, ac, bf, bd, bc, mi, fm, fv, fo, es, er⟩ := u1
      exact nm_r (nI_1 j) k
    · have k := hY x2 post h
      obtain ⟨vyt, vys, vye, vyp, vyr, vyf, vyg, vyl, vyu, vyi, vyo, vya, vyn, vyk, von, vma, vva, vse, vre, vms, vww, vwh, vwt, vbn, vbh, vbx⟩ := v
      have st : ∀ w : SY → Prop, w v1 → wn_st w (vyt + 1, vys, vye, vyp, vyr, vyf, vyg, vyl, vyu, vyi, vyo, vya, vyn, vyk, von, vma, vva, vse, vre, vms, vww, vwh, vwt, vbn, vbh, vbx) := bY
      obtain ⟨yt, ys, ye, yp, yr, yf, yg, yl, yu, yi, yo, ya, yn, yk, on, ma, va, se, re, ms, ww, wh, wt, bn, bh, bx⟩ := v1
      refine br_f nl (nm_e ⟨fun e0 => ?_, fun n0 => ⟨fun e1 => ?_, fun n1 => ?_⟩⟩)
      · exact (st _ (nm_r (nI_1 j) k)).1 e0
      · exact ((st _ (nm_r (nI_1 j) k)).2 n0).1 e1
      · exact ((st _ (nm_r (nI_1 j) k)).2 n0).2 n1
theorem wn_R_sent {T : Nat} {u : SX} {v : SY} (I : wn_R T u v) : v.2.1 = u.2.1 := by
  obtain ⟨D, H, xs, xw, xq, xi, xg, xb, xc, yr, yf, yg, yl, yu, yi, yo, ya, yn, yk, I, L, C, B, S, E, ad, bd, bf, mi, fm, fv, fo, on, rfl, rfl, G, P⟩ := I
  rfl
theorem i_vc_run {k : Nat} {u : SX} {v : SY} (I : i_Rel k u v) (hk : k + 5 ≤ 2560) (v1 : Int32) : wpX_run (fun r u' => wpY_run (fun r' v' => r' = r ∧ i_Rel (k + 5) u' v') v v1) u v1 := by
  have J := i_up I
  obtain ⟨T, hT, R⟩ := I
  have eS := wn_R_sent R
  obtain ⟨uxt, uxs, uxe, uxw, uxq, uxi, uxg, uxb, uxc, uai, ual, uad, uac, ubf, ubd, ubc, umi, ufm, ufv, ufo, ues, uer⟩ := u
  obtain ⟨vyt, vys, vye, vyp, vyr, vyf, vyg, vyl, vyu, vyi, vyo, vya, vyn, vyk, von, vma, vva, vse, vre, vms, vww, vwh, vwt, vbn, vbh, vbx⟩ := v
  have eS' : vys = uxs := eS
  subst eS'
  unfold wpX_run
  by_cases h0 : v1 < 0
  · refine br_t h0 ?_
    unfold wpY_run
    exact br_t h0 ⟨rfl, J⟩
  refine br_f h0 ?_
  by_cases h2 : v1 ≤ 2000
  · obtain ⟨b, hb, rfl⟩ := nI_of h0
    have hb2 : b ≤ 2000 := Nat.not_lt.mp (fun z => nI_ge (a := 2000) z hb h2)
    obtain ⟨u', v', R', hX, hY⟩ := wn_runL hb2 b 0 T _ _ (by omega) R (by omega)
    have Y1 : wpY_run (fun r' v' => r' = u'.2.1 - vys ∧ i_Rel (k + 5) u' v') (vyt, vys, vye, vyp, vyr, vyf, vyg, vyl, vyu, vyi, vyo, vya, vyn, vyk, von, vma, vva, vse, vre, vms, vww, vwh, vwt, vbn, vbh, vbx) (nI b) := by
      unfold wpY_run
      refine br_f h0 (br_t h2 ⟨b + 1, ?_⟩)
      exact hY vys (fun r' v' => r' = u'.2.1 - vys ∧ i_Rel (k + 5) u' v') ⟨by rw [wn_R_sent R'], T + b, by omega, R'⟩
    refine br_t h2 ⟨b + 1, ?_⟩
    exact hX vys (fun r u' => wpY_run (fun r' v' => r' = r ∧ i_Rel (k + 5) u' v') (vyt, vys, vye, vyp, vyr, vyf, vyg, vyl, vyu, vyi, vyo, vya, vyn, vyk, von, vma, vva, vse, vre, vms, vww, vwh, vwt, vbn, vbh, vbx) (nI b)) Y1
  · refine br_f h2 ?_
    unfold wpY_run
    exact br_f h0 (br_f h2 ⟨rfl, J⟩)
