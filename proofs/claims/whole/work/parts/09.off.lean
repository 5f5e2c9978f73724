/-! breaking off, delivering, finishing: both sides in step -/
theorem wn_sn {f : Nat → Nat} {j a : Nat} (h : f j = a) : wn_set f j a = f := by
  funext z
  by_cases e : z = j
  · subst e
    rw [wn_set_s, h]
  · rw [wn_set_n e]
section
variable {xt xs xe xw xq xi xg xb xc : Int32} {ai al ac bf bc mi fm fv fo es er : Nat → Int32} {ad bd : Nat → Int64}
variable {yt ys ye yp yr yf yg yl yu yi yo ya yn yk : Int32} {on ma va se re ms ww wh bn bh : Nat → Int32} {wt bx : Nat → Int64}
theorem wn_brkL {m : Nat} (hm : m < 4) (hO : ∀ i, i < 4 → (fo i = 0 ∧ on i = 1) ∨ (fo i = 1 ∧ on i = 0)) : ∀ d j, j + d = 4 → ∀ E : Nat → Nat, (∀ i, E i ≤ 255) → ∃ E' : Nat → Nat, (∀ i, E' i ≤ 255) ∧
      (∀ post : SX → Prop, wX_breakOff_2 post (nI m) xt xs xe xw xq xi xg xb xc 1 4 ai al ad ac bf bd bc mi fm fv fo es (fun z => nI (E' z)) → wX_breakOff_2 post (nI m) xt xs xe xw xq xi xg xb xc (d + 1) (nI j) ai al ad ac bf bd bc mi fm fv fo es (fun z => nI (E z))) ∧
      (∀ post : SY → Prop, wY_breakOff_20 post (nI m) yt ys ye yp yr yf yg yl yu yi yo ya yn yk 1 4 on ma va se (fun z => nI (E' z)) ms ww wh wt bn bh bx → wY_breakOff_20 post (nI m) yt ys ye yp yr yf yg yl yu yi yo ya yn yk (d + 1) (nI j) on ma va se (fun z => nI (E z)) ms ww wh wt bn bh bx) := by
  intro d
  induction d with
  | zero =>
    intro j hj E hE
    have e : j = 4 := by omega
    subst e
    exact ⟨E, hE, fun _ h => h, fun _ h => h⟩
  | succ d ih =>
    intro j hj E hE
    have n4 : ¬ (4 : Int32) ≤ nI j := nI_ge (b := 4) (by omega) (by decide)
    have vj : vp_in (nI j) 4 := vp_in_nI (by omega) (by decide)
    have ec : (nI j).toNatClampNeg = j := nI_clamp (by omega)
    by_cases e : j = m
    · obtain ⟨E', h1, hX, hY⟩ := ih (j + 1) (by omega) E hE
      exact ⟨E', h1, fun post h => br_f n4 (br_t (congrArg nI e) (nm_r (nI_1 j) (hX post h))), fun post h => br_f n4 (br_t (congrArg nI e) (nm_r (nI_1 j) (hY post h)))⟩
    have ne : ¬ nI j = nI m := fun z => e ((nI_eq (by omega) (by omega)).mp z)
    rcases hO j (by omega) with ⟨q1, q2⟩ | ⟨q1, q2⟩
    · have f0 : fo (nI j).toNatClampNeg = 0 := by rw [ec]; exact q1
      have n0 : ¬ on (nI j).toNatClampNeg = 0 := by rw [ec, q2]; decide
      have hej := hE j
      have ee : nI (E (nI j).toNatClampNeg) = nI (E j) := wn_at E (by omega)
      by_cases h255 : 255 ≤ E j
      · have z : (255 : Int32) ≤ nI (E (nI j).toNatClampNeg) := by rw [ee]; exact nI_le (a := 255) h255 (by omega)
        obtain ⟨E', h1, hX, hY⟩ := ih (j + 1) (by omega) E hE
        exact ⟨E', h1, fun post h => br_f n4 (br_f ne ⟨vj, br_t f0 ⟨vj, br_t z (nm_r (nI_1 j) (hX post h))⟩⟩), fun post h => br_f n4 (br_f ne ⟨vj, br_f n0 ⟨vj, br_t z (nm_r (nI_1 j) (hY post h))⟩⟩)⟩
      · have z : ¬ (255 : Int32) ≤ nI (E (nI j).toNatClampNeg) := by rw [ee]; exact nI_ge (b := 255) (by omega) (by decide)
        have eu : upd (fun z => nI (E z)) (nI j).toNatClampNeg (nI (E (nI j).toNatClampNeg) + 1) = fun z => nI (wn_set E j (E j + 1) z) := by
          rw [ee, nI_1]
          exact wn_uset (g := E) (by omega)
        obtain ⟨E', h1, hX, hY⟩ := ih (j + 1) (by omega) (wn_set E j (E j + 1)) (wn_set_le hE (by omega))
        exact ⟨E', h1, fun post h => br_f n4 (br_f ne ⟨vj, br_t f0 ⟨vj, br_f z ⟨vj, vj, nm_r eu (nm_r (nI_1 j) (hX post h))⟩⟩⟩), fun post h => br_f n4 (br_f ne ⟨vj, br_f n0 ⟨vj, br_f z ⟨vj, vj, nm_r eu (nm_r (nI_1 j) (hY post h))⟩⟩⟩)⟩
    · have f0 : ¬ fo (nI j).toNatClampNeg = 0 := by rw [ec, q1]; decide
      have n0 : on (nI j).toNatClampNeg = 0 := by rw [ec]; exact q2
      obtain ⟨E', h1, hX, hY⟩ := ih (j + 1) (by omega) E hE
      exact ⟨E', h1, fun post h => br_f n4 (br_f ne ⟨vj, br_f f0 (nm_r (nI_1 j) (hX post h))⟩), fun post h => br_f n4 (br_f ne ⟨vj, br_t n0 (nm_r (nI_1 j) (hY post h))⟩)⟩
variable {I L C B S E : Nat → Nat}
theorem wn_brk {p s : Nat} (hp : p < 16) (hs : ∀ i, S i ≤ s) (hs' : s < 100000000) (hE : ∀ i, E i ≤ 255) (hO : ∀ i, i < 4 → (fo i = 0 ∧ on i = 1) ∨ (fo i = 1 ∧ on i = 0)) :
    ∃ (S' E' : Nat → Nat) (fo' on' : Nat → Int32), (∀ i, S' i ≤ s + 8) ∧ (∀ i, E' i ≤ 255) ∧ (∀ i, i < 4 → (fo' i = 0 ∧ on' i = 1) ∨ (fo' i = 1 ∧ on' i = 0)) ∧
      (∀ post : SX → Prop, post (xt, xs, xe, 2, nI 14, xi, xg, xb, xc, (fun z => nI (I z)), (fun z => nI (L z)), ad, (fun z => nI (C z)), bf, bd, (fun z => nI (B z)), mi, fm, fv, fo', (fun z => nI (S' z)), (fun z => nI (E' z))) → wpX_breakOff post (xt, xs, xe, xw, xq, xi, xg, xb, xc, (fun z => nI (I z)), (fun z => nI (L z)), ad, (fun z => nI (C z)), bf, bd, (fun z => nI (B z)), mi, fm, fv, fo, (fun z => nI (S z)), (fun z => nI (E z))) (nI (p / 4))) ∧
      (∀ post : SY → Prop, post (xt, xs, ye, 2, nI 14, nI p, yg, yl, yu, yi, yo, ya, yn, yk, on', fm, fv, (fun z => nI (S' z)), (fun z => nI (E' z)), mi, (fun z => nI (C z)), (fun z => nI (16 * I z + L z)), ad, (fun z => nI (B z)), bf, bd) → wpY_breakOff post (xt, xs, ye, xw, yr, nI p, yg, yl, yu, yi, yo, ya, yn, yk, on, fm, fv, (fun z => nI (S z)), (fun z => nI (E z)), mi, (fun z => nI (C z)), (fun z => nI (16 * I z + L z)), ad, (fun z => nI (B z)), bf, bd)) := by
  have hm : p / 4 < 4 := by omega
  have vm : vp_in (nI (p / 4)) 4 := vp_in_nI hm (by decide)
  have ec : (nI (p / 4)).toNatClampNeg = p / 4 := nI_clamp (by omega)
  have hsm := hs (p / 4)
  have eS : upd (fun z => nI (S z)) (nI (p / 4)).toNatClampNeg (nI (S (nI (p / 4)).toNatClampNeg) + 8) = fun z => nI (wn_set S (p / 4) (S (p / 4) + 8) z) := by
    rw [wn_at S (by omega), show nI (S (p / 4)) + 8 = nI (S (p / 4) + 8) from nI_add _ 8]
    exact wn_uset (g := S) (by omega)
  have eS' : nI (wn_set S (p / 4) (S (p / 4) + 8) (nI (p / 4)).toNatClampNeg) = nI (S (p / 4) + 8) := by rw [ec, wn_set_s]
  obtain ⟨E', h1, hX, hY⟩ := wn_brkL (on := on) (fo := fo) hm hO 4 0 rfl E hE
  have hS' : ∀ i, wn_set S (p / 4) (S (p / 4) + 8) i ≤ s + 8 := wn_set_le (fun i => by have := hs i; omega) (by omega)
  by_cases h255 : S (p / 4) + 8 ≤ 255
  · have z : nI (wn_set S (p / 4) (S (p / 4) + 8) (nI (p / 4)).toNatClampNeg) ≤ 255 := by rw [eS']; exact nI_le (b := 255) h255 (by decide)
    refine ⟨wn_set S (p / 4) (S (p / 4) + 8), E', fo, on, hS', h1, hO, fun post h => ?_, fun post h => ?_⟩
    · exact ⟨5, hX post (br_t (by decide) ⟨vm, vm, nm_r eS ⟨vm, br_t z h⟩⟩)⟩
    · exact ⟨by decide, nm_r (wn_q p (by omega)).1 ⟨vm, vm, nm_r eS ⟨5, hY post (br_t (by decide) ⟨vm, br_t z h⟩)⟩⟩⟩
  · have z : ¬ nI (wn_set S (p / 4) (S (p / 4) + 8) (nI (p / 4)).toNatClampNeg) ≤ 255 := by rw [eS']; exact nI_ge (a := 255) (by omega) (by omega)
    have ef : upd fo (nI (p / 4)).toNatClampNeg (vp_nar .boolean 1) = upd fo (p / 4) 1 := by rw [ec, wn_nb1]
    have eo : upd on (nI (p / 4)).toNatClampNeg (vp_nar .boolean 0) = upd on (p / 4) 0 := by rw [ec, wn_nb0]
    refine ⟨wn_set S (p / 4) (S (p / 4) + 8), E', upd fo (p / 4) 1, upd on (p / 4) 0, hS', h1, ?_, fun post h => ?_, fun post h => ?_⟩
    · intro i hi
      by_cases e : i = p / 4
      · rw [e]
        exact Or.inr ⟨pk_us, pk_us⟩
      · rw [pk_un e, pk_un e]
        exact hO i hi
    · exact ⟨5, hX post (br_t (by decide) ⟨vm, vm, nm_r eS ⟨vm, br_f z ⟨vm, nm_r ef h⟩⟩⟩)⟩
    · exact ⟨by decide, nm_r (wn_q p (by omega)).1 ⟨vm, vm, nm_r eS ⟨5, hY post (br_t (by decide) ⟨vm, br_f z ⟨vm, nm_r eo h⟩⟩)⟩⟩⟩
/-- one frame comes to one node -/
theorem wn_del {p j hd : Nat} {dv : Int64} (hp : p < 16) (hj : j < 4) (hB : ∀ i, B i ≤ 6) (hw : wh (nI p).toNatClampNeg = nI hd) (ht : wt (nI p).toNatClampNeg = dv) :
    ∃ (bf' mi' : Nat → Int32) (bd' : Nat → Int64) (B' : Nat → Nat), (∀ i, B' i ≤ 6) ∧
      (∀ post : SX → Prop, post (xt, xs, xe, xw, xq, xi, xg, xb, xc, ai, al, ad, ac, bf', bd', (fun z => nI (B' z)), mi', fm, fv, fo, es, er) → wpX_deliver post (xt, xs, xe, xw, xq, xi, xg, xb, xc, ai, al, ad, ac, bf, bd, (fun z => nI (B z)), mi, fm, fv, fo, es, er) (nI j) (nI hd) dv) ∧
      (∀ post : SY → Prop, post (yt, ys, ye, yp, yr, nI p, yg, yl, yu, yi, yo, ya, yn, yk, on, fm, fv, se, re, mi', ww, wh, wt, (fun z => nI (B' z)), bf', bd') → wpY_deliver post (yt, ys, ye, yp, yr, nI p, yg, yl, yu, yi, yo, ya, yn, yk, on, fm, fv, se, re, mi, ww, wh, wt, (fun z => nI (B z)), bf, bd) (nI j)) := by
  have vj : vp_in (nI j) 4 := vp_in_nI hj (by decide)
  have vp : vp_in (nI p) 16 := vp_in_nI hp (by decide)
  have eb : nI (B (nI j).toNatClampNeg) = nI (B j) := wn_at B (by omega)
  have hb := hB j
  by_cases hf : ((nI hd / 16 ^^^ fv (nI j).toNatClampNeg) &&& fm (nI j).toNatClampNeg) = 0
  · by_cases h6 : B j < 6
    · have l6 : nI (B (nI j).toNatClampNeg) < 6 := by rw [eb]; exact nI_lt (b := 6) h6 (by decide)
      have n6 : ¬ nI (B (nI j).toNatClampNeg) = 6 := by rw [eb]; exact fun z => by have := (nI_eq (b := 6) (by omega) (by decide)).mp z; omega
      have e1 : nI j * 6 + nI (B (nI j).toNatClampNeg) = nI (6 * j + B j) := by
        rw [eb]
        show nI j * nI 6 + _ = _
        rw [pk_mul, nI_add, Nat.mul_comm]
      have e2 : 6 * nI j + nI (B (nI j).toNatClampNeg) = nI (6 * j + B j) := by
        rw [eb]
        show nI 6 * nI j + _ = _
        rw [pk_mul, nI_add]
      have v24 : vp_in (nI (6 * j + B j)) 24 := vp_in_nI (by omega) (by decide)
      have v24' : vp_in (6 * nI j + nI (B (nI j).toNatClampNeg)) 24 := pk_in (6 * j + B j) 24 (by omega) e2
      have ecnt : upd (fun z => nI (B z)) (nI j).toNatClampNeg (nI (B (nI j).toNatClampNeg) + 1) = fun z => nI (wn_set B j (B j + 1) z) := by
        rw [eb, nI_1]
        exact wn_uset (g := B) (by omega)
      refine ⟨upd bf (nI (6 * j + B j)).toNatClampNeg (nI hd), mi, vp_updL bd (nI (6 * j + B j)).toNatClampNeg dv, wn_set B j (B j + 1), wn_set_le hB (by omega), fun post h => ?_, fun post h => ?_⟩
      · exact ⟨by decide, nm_e ⟨vj, vj, br_t hf ⟨vj, br_t l6 ⟨vj, nm_r e1 ⟨v24, nm_e ⟨v24, nm_e ⟨vj, vj, nm_r ecnt h⟩⟩⟩⟩⟩⟩⟩
      · exact ⟨vp, nm_r hw ⟨by decide, vj, vj, br_t hf ⟨vj, br_f n6 ⟨vj, v24', nm_r (by rw [e2]) ⟨vj, vp, v24', nm_r (by rw [e2, ht]) ⟨vj, vj, nm_r ecnt h⟩⟩⟩⟩⟩⟩
    · have l6 : ¬ nI (B (nI j).toNatClampNeg) < 6 := by rw [eb]; exact nI_nlt (b := 6) (by omega) (by omega)
      have n6 : nI (B (nI j).toNatClampNeg) = 6 := by rw [eb, show B j = 6 by omega]; rfl
      refine ⟨bf, upd mi (nI j).toNatClampNeg (mi (nI j).toNatClampNeg + 1), bd, B, hB, fun post h => ?_, fun post h => ?_⟩
      · exact ⟨by decide, nm_e ⟨vj, vj, br_t hf ⟨vj, br_f l6 ⟨vj, vj, nm_e h⟩⟩⟩⟩
      · exact ⟨vp, nm_r hw ⟨by decide, vj, vj, br_t hf ⟨vj, br_t n6 ⟨vj, vj, nm_e h⟩⟩⟩⟩
  · refine ⟨bf, mi, bd, B, hB, fun post h => ?_, fun post h => ?_⟩
    · exact ⟨by decide, nm_e ⟨vj, vj, br_f hf h⟩⟩
    · exact ⟨vp, nm_r hw ⟨by decide, vj, vj, br_f hf h⟩⟩
theorem wn_one {s : Nat} {x : Int32} {post : Int32 → Prop} (hs : s < 2 ^ 31) (hx : x = nI s) (h : post (nI (s - 1))) : wpX_oneLess post x := by
  subst hx
  unfold wpX_oneLess
  by_cases e : s = 0
  · subst e
    exact br_t (by decide) h
  · refine br_f (nI_nle (by omega) hs) ?_
    rw [show nI s - 1 = nI (s - 1) from pk_sub (b := 1) (by omega)]
    exact h
theorem wn_finL {m p hd : Nat} {dv : Int64} (hp : p < 16) (hm : m < 4) (hO : ∀ i, i < 4 → (fo i = 0 ∧ on i = 1) ∨ (fo i = 1 ∧ on i = 0)) (hw : wh (nI p).toNatClampNeg = nI hd) (ht : wt (nI p).toNatClampNeg = dv) :
    ∀ d j, j + d = 4 → ∀ (E B : Nat → Nat) (bf mi : Nat → Int32) (bd : Nat → Int64), (∀ i, E i ≤ 255) → (∀ i, B i ≤ 6) → ∃ (E' B' : Nat → Nat) (bf' mi' : Nat → Int32) (bd' : Nat → Int64), (∀ i, E' i ≤ 255) ∧ (∀ i, B' i ≤ 6) ∧
      (∀ post : SX → Prop, wX_finish_33 post (nI m) (nI hd) dv 1 4 xt xs xe xw xq xi xg xb xc ai al ad ac bf' bd' (fun z => nI (B' z)) mi' fm fv fo es (fun z => nI (E' z)) → wX_finish_33 post (nI m) (nI hd) dv (d + 1) (nI j) xt xs xe xw xq xi xg xb xc ai al ad ac bf bd (fun z => nI (B z)) mi fm fv fo es (fun z => nI (E z))) ∧
      (∀ post : SY → Prop, wY_finish_28 post (nI m) 1 4 yt ys ye yp yr (nI p) yg yl yu yi yo ya yn yk on fm fv se (fun z => nI (E' z)) mi' ww wh wt (fun z => nI (B' z)) bf' bd' → wY_finish_28 post (nI m) (d + 1) (nI j) yt ys ye yp yr (nI p) yg yl yu yi yo ya yn yk on fm fv se (fun z => nI (E z)) mi ww wh wt (fun z => nI (B z)) bf bd) := by
  intro d
  induction d with
  | zero =>
    intro j hj E B bf mi bd hE hB
    have e : j = 4 := by omega
    subst e
    exact ⟨E, B, bf, mi, bd, hE, hB, fun _ h => h, fun _ h => h⟩
  | succ d ih =>
    intro j hj E B bf mi bd hE hB
    have n4 : ¬ (4 : Int32) ≤ nI j := nI_ge (b := 4) (by omega) (by decide)
    have vj : vp_in (nI j) 4 := vp_in_nI (by omega) (by decide)
    have ec : (nI j).toNatClampNeg = j := nI_clamp (by omega)
    by_cases e : j = m
    · obtain ⟨E', B', bf', mi', bd', h1, h2, hX, hY⟩ := ih (j + 1) (by omega) E B bf mi bd hE hB
      exact ⟨E', B', bf', mi', bd', h1, h2, fun post h => br_f n4 (br_t (congrArg nI e) (nm_r (nI_1 j) (hX post h))), fun post h => br_f n4 (br_t (congrArg nI e) (nm_r (nI_1 j) (hY post h)))⟩
    have ne : ¬ nI j = nI m := fun z => e ((nI_eq (by omega) (by omega)).mp z)
    rcases hO j (by omega) with ⟨q1, q2⟩ | ⟨q1, q2⟩
    · have f0 : fo (nI j).toNatClampNeg = 0 := by rw [ec]; exact q1
      have n0 : ¬ on (nI j).toNatClampNeg = 0 := by rw [ec, q2]; decide
      have hej := hE j
      have ee : nI (E (nI j).toNatClampNeg) = nI (E j) := wn_at E (by omega)
      obtain ⟨bf1, mi1, bd1, B1, k1, kX, kY⟩ := wn_del (hd := hd) hp (show j < 4 by omega) hB hw ht
      obtain ⟨E', B', bf', mi', bd', h1, h2, hX, hY⟩ := ih (j + 1) (by omega) (wn_set E j (E j - 1)) B1 bf1 mi1 bd1 (wn_set_le hE (by omega)) k1
      refine ⟨E', B', bf', mi', bd', h1, h2, fun post h => br_f n4 (br_f ne ⟨vj, br_t f0 (kX _ ?_)⟩), fun post h => br_f n4 (br_f ne ⟨vj, br_f n0 (kY _ ?_)⟩)⟩
      · exact ⟨vj, wn_one (by omega) ee ⟨vj, nm_r (wn_uset (g := E) (by omega)) (nm_r (nI_1 j) (hX post h))⟩⟩
      · by_cases e0 : E j = 0
        · refine ⟨vj, br_t (show nI (E (nI j).toNatClampNeg) ≤ 0 by rw [ee, e0]; decide) (nm_r (nI_1 j) ?_)⟩
          have := hY post h
          rw [wn_sn (show E j = E j - 1 by omega)] at this
          exact this
        · refine ⟨vj, br_f (show ¬ nI (E (nI j).toNatClampNeg) ≤ 0 by rw [ee]; exact nI_nle (by omega) (by omega)) ⟨vj, vj, nm_r ?_ (nm_r (nI_1 j) (hY post h))⟩⟩
          show upd (fun z => nI (E z)) (nI j).toNatClampNeg (nI (E (nI j).toNatClampNeg) - 1) = _
          rw [ee, show nI (E j) - 1 = nI (E j - 1) from pk_sub (b := 1) (by omega)]
          exact wn_uset (g := E) (by omega)
    · have f0 : ¬ fo (nI j).toNatClampNeg = 0 := by rw [ec, q1]; decide
      have n0 : on (nI j).toNatClampNeg = 0 := by rw [ec]; exact q2
      obtain ⟨E', B', bf', mi', bd', h1, h2, hX, hY⟩ := ih (j + 1) (by omega) E B bf mi bd hE hB
      exact ⟨E', B', bf', mi', bd', h1, h2, fun post h => br_f n4 (br_f ne ⟨vj, br_f f0 (nm_r (nI_1 j) (hX post h))⟩), fun post h => br_f n4 (br_f ne ⟨vj, br_t n0 (nm_r (nI_1 j) (hY post h))⟩)⟩
theorem wn_fin {p s : Nat} (hp : p < 16) (htk : wn_tk C p) (hI : ∀ i, I i < 2048) (hL : ∀ i, L i ≤ 8) (hC : ∀ i, C i ≤ 4) (hB : ∀ i, B i ≤ 6) (hs : ∀ i, S i ≤ s) (hs' : s < 100000000) (hE : ∀ i, E i ≤ 255) (hO : ∀ i, i < 4 → (fo i = 0 ∧ on i = 1) ∨ (fo i = 1 ∧ on i = 0)) :
    ∃ (S' E' B' : Nat → Nat) (bf' mi' : Nat → Int32) (bd' : Nat → Int64), (∀ i, S' i ≤ s) ∧ (∀ i, E' i ≤ 255) ∧ (∀ i, B' i ≤ 6) ∧
      (∀ post : SX → Prop, post (xt, xs + 1, xe, 3, nI 3, xi, xg, xb, xc, (fun z => nI ((wn_shf p (wn_end C p) I) z)), (fun z => nI ((wn_shf p (wn_end C p) L) z)), wn_shf p (wn_end C p) ad, (fun z => nI ((wn_C1 C (p / 4)) z)), bf', bd', (fun z => nI (B' z)), mi', fm, fv, fo, (fun z => nI (S' z)), (fun z => nI (E' z))) → wpX_finish post (xt, xs, xe, xw, xq, xi, xg, xb, xc, (fun z => nI (I z)), (fun z => nI (L z)), ad, (fun z => nI (C z)), bf, bd, (fun z => nI (B z)), mi, fm, fv, fo, (fun z => nI (S z)), (fun z => nI (E z))) (nI p) (nI (p / 4))) ∧
      (∀ post : SY → Prop, post (xt, xs + 1, ye, 3, nI 3, nI p, yg, yl, yu, yi, yo, ya, yn, yk, on, fm, fv, (fun z => nI (S' z)), (fun z => nI (E' z)), mi', (fun z => nI ((wn_C1 C (p / 4)) z)), (fun z => nI (16 * (wn_shf p (wn_end C p) I) z + (wn_shf p (wn_end C p) L) z)), wn_shf p (wn_end C p) ad, (fun z => nI (B' z)), bf', bd') → wpY_finish post (xt, xs, ye, xw, yr, nI p, yg, yl, yu, yi, yo, ya, yn, yk, on, fm, fv, (fun z => nI (S z)), (fun z => nI (E z)), mi, (fun z => nI (C z)), (fun z => nI (16 * I z + L z)), ad, (fun z => nI (B z)), bf, bd)) := by
  have hm : p / 4 < 4 := by omega
  have vp : vp_in (nI p) 16 := vp_in_nI hp (by decide)
  have vm : vp_in (nI (p / 4)) 4 := vp_in_nI hm (by decide)
  have ec : (nI p).toNatClampNeg = p := nI_clamp (by omega)
  have hsm := hs (p / 4)
  have es1 : nI (S (nI (p / 4)).toNatClampNeg) = nI (S (p / 4)) := wn_at S (by omega)
  have e16 : 16 * nI (I (nI p).toNatClampNeg) + nI (L (nI p).toNatClampNeg) = nI (16 * I p + L p) := by
    rw [ec]
    show nI 16 * nI (I p) + _ = _
    rw [pk_mul, nI_add]
  obtain ⟨E', B', bf', mi', bd', h1, h2, hX, hY⟩ := wn_finL (fo := fo) (on := on) (m := p / 4) (hd := 16 * I p + L p) (wh := fun z => nI (16 * I z + L z)) (wt := ad) (dv := ad (nI p).toNatClampNeg) hp hm hO (by rw [ec]) rfl 4 0 rfl E B bf mi bd hE hB
  refine ⟨wn_set S (p / 4) (S (p / 4) - 1), E', B', bf', mi', bd', wn_set_le hs (by omega), h1, h2, fun post h => ?_, fun post h => ?_⟩
  · unfold wpX_finish
    refine ⟨vp, vp, nm_r e16 ⟨vp, nm_e (wn_rmXP hC hp htk ⟨5, hX _ (br_t (by decide) ⟨vm, wn_one (by omega) es1 ⟨vm, nm_r (wn_uset (g := S) (by omega)) (nm_e h)⟩⟩)⟩)⟩⟩
  · have fn : ∀ S2 : Nat → Nat, S2 = wn_set S (p / 4) (S (p / 4) - 1) → wY_finish_28 post (nI (p / 4)) 5 0 xt xs ye xw yr (nI p) yg yl yu yi yo ya yn yk on fm fv (fun z => nI (S2 z)) (fun z => nI (E z)) mi (fun z => nI (C z)) (fun z => nI (16 * I z + L z)) ad (fun z => nI (B z)) bf bd := by
      intro S2 e
      subst e
      exact hY _ (br_t (by decide) (wn_rmYP hC hp htk (by decide) (nm_e h)))
    unfold wpY_finish
    refine ⟨by decide, nm_r (wn_q p (by omega)).1 ⟨vm, ?_⟩⟩
    by_cases e0 : S (p / 4) = 0
    · exact br_t (show nI (S (nI (p / 4)).toNatClampNeg) ≤ 0 by rw [es1, e0]; decide) ⟨5, fn S (wn_sn (by omega)).symm⟩
    · refine br_f (show ¬ nI (S (nI (p / 4)).toNatClampNeg) ≤ 0 by rw [es1]; exact nI_nle (by omega) (by omega)) ⟨vm, vm, nm_r ?_ ⟨5, fn _ rfl⟩⟩
      show upd (fun z => nI (S z)) (nI (p / 4)).toNatClampNeg (nI (S (nI (p / 4)).toNatClampNeg) - 1) = _
      rw [es1, show nI (S (p / 4)) - 1 = nI (S (p / 4) - 1) from pk_sub (b := 1) (by omega)]
      exact wn_uset (g := S) (by omega)
end
