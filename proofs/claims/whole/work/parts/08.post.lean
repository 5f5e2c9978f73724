/-! post and cancel -/
section
variable {yt ys ye yp yr yf yg yl yu yi yo ya yn yk : Int32} {on ma va se re ms ww wh bn bh : Nat → Int32} {wt bx : Nat → Int64}
theorem wn_findYe {I L C : Nat → Nat} {post : Int32 → Prop} {a : Nat} {x : Int32} (hx : x = nI a) (hC : ∀ m, C m ≤ 4) (hI : ∀ p, I p < 2048) (hL : ∀ p, L p ≤ 8) (ha : a < 2048) (h1 : ∀ q, q < 16 → wn_tk C q → I q = a → post (nI q)) (h2 : (∀ q, q < 16 → wn_tk C q → I q ≠ a) → post (-1)) :
    wpY_find post (yt, ys, ye, yp, yr, yf, yg, yl, yu, yi, yo, ya, yn, yk, on, ma, va, se, re, ms, (fun z => nI (C z)), (fun z => nI (16 * I z + L z)), wt, bn, bh, bx) x := by
  subst hx
  exact wn_findY hC hI hL ha h1 h2
/-- the lowest bytes -/
def wn_dv (p0 : Int32) (x : Int64) : Int64 := if p0 = 8 then x else x &&& (((1 : Int64) <<< ((8 * p0).toInt64 &&& 63)) - 1)
theorem wn_lowX {post : Int64 → Prop} {p0 : Int32} {x : Int64} (h : post (wn_dv p0 x)) : wpX_lowestBytes post p0 x := by
  unfold wn_dv at h
  unfold wpX_lowestBytes
  by_cases e : p0 = 8
  · rw [if_pos e] at h
    exact br_t e h
  · rw [if_neg e] at h
    exact br_f e h
theorem wn_cutY {post : Int64 → Prop} {p0 : Int32} {x : Int64} (h : post (wn_dv p0 x)) : wpY_cut post (yt, ys, ye, yp, yr, yf, yg, yl, yu, yi, yo, ya, yn, yk, on, ma, va, se, re, ms, ww, wh, wt, bn, bh, bx) p0 x := by
  unfold wn_dv at h
  unfold wpY_cut
  by_cases e : p0 = 8
  · rw [if_pos e] at h
    exact br_t e h
  · rw [if_neg e] at h
    exact br_f e h
end
theorem wn_tk_up {C : Nat → Nat} {m p : Nat} (hm : C m < 4) (h : wn_tk C p) : wn_tk (wn_set C m (C m + 1)) p ∧ p ≠ 4 * m + C m := by
  have h' : p % 4 < C (p / 4) := h
  by_cases e : p / 4 = m
  · rw [e] at h'
    refine ⟨?_, by omega⟩
    show p % 4 < wn_set C m (C m + 1) (p / 4)
    rw [e, wn_set_s]
    omega
  · refine ⟨?_, fun z => ?_⟩
    · show p % 4 < wn_set C m (C m + 1) (p / 4)
      rw [wn_set_n e]
      exact h'
    · omega
theorem wn_tk_dn {C : Nat → Nat} {m p : Nat} (hm : C m < 4) (h : wn_tk (wn_set C m (C m + 1)) p) : p = 4 * m + C m ∨ (wn_tk C p ∧ p ≠ 4 * m + C m) := by
  have h' : p % 4 < wn_set C m (C m + 1) (p / 4) := h
  by_cases e : p / 4 = m
  · rw [e, wn_set_s] at h'
    by_cases e2 : p = 4 * m + C m
    · exact Or.inl e2
    · refine Or.inr ⟨?_, e2⟩
      show p % 4 < C (p / 4)
      rw [e]
      omega
  · rw [wn_set_n e] at h'
    exact Or.inr ⟨h', by omega⟩
theorem wn_dis_post {I C : Nat → Nat} {m a : Nat} (hm : C m < 4) (hd : wn_dis I C) (hn : ∀ q, q < 16 → wn_tk C q → I q ≠ a) : wn_dis (wn_set I (4 * m + C m) a) (wn_set C m (C m + 1)) := by
  intro p q hp hq tp tq e
  rcases wn_tk_dn hm tp with h1 | ⟨t1, n1⟩
  · rcases wn_tk_dn hm tq with h2 | ⟨t2, n2⟩
    · omega
    · rw [h1, wn_set_s, wn_set_n n2] at e
      exact absurd e.symm (hn q hq t2)
  · rcases wn_tk_dn hm tq with h2 | ⟨t2, n2⟩
    · rw [h2, wn_set_s, wn_set_n n1] at e
      exact absurd e (hn p hp t1)
    · rw [wn_set_n n1, wn_set_n n2] at e
      exact hd p q hp hq t1 t2 e
theorem wn_ph_up {I C I' C' : Nat → Nat} {xw xq xi xg xb xc yr yf yg yl yu : Int32} (h : ∀ p, p < 16 → wn_tk C p → wn_tk C' p ∧ I' p = I p) (P : wn_ph I C xw xq xi xg xb xc yr yf yg yl yu) : wn_ph I' C' xw xq xi xg xb xc yr yf yg yl yu := by
  rcases P with P | ⟨P, p, g, b, q, hp, ht, e1, e2⟩ | P
  · exact Or.inl P
  · obtain ⟨t1, t2⟩ := h p hp ht
    exact Or.inr (Or.inl ⟨P, p, g, b, q, hp, t1, by rw [t2]; exact e1, e2⟩)
  · exact Or.inr (Or.inr P)
theorem i_vc_post {k : Nat} {u : SX} {v : SY} (I : i_Rel k u v) (hk : k + 5 ≤ 2560) (v1 : Int32) (v2 : Int32) (a2 : Int64) : wpX_post (fun r u' => wpY_post (fun r' v' => r' = r ∧ i_Rel (k + 5) u' v') v v1 v2 a2) u v1 v2 a2 := by
  have J := i_up I
  obtain ⟨T, hT, D, H, xs, xw, xq, xi, xg, xb, xc, yr, yf, yg, yl, yu, yi, yo, ya, yn, yk, I, L, C, B, S, E, ad, bd, bf, mi, fm, fv, fo, on, rfl, rfl, G, P⟩ := I
  obtain ⟨⟨g1, g2, g3⟩, hI, hL, hC, hB, hS, hE, hO, hd⟩ := G
  unfold wpX_post wpY_post
  rcases wn_ix v1 (n := 8192) (by decide) with h | ⟨c, hc, rfl⟩
  · by_cases h0 : v1 < 0
    · exact br_t h0 (br_t h0 ⟨rfl, J⟩)
    · have h8 : nI 8192 ≤ v1 := h.resolve_left h0
      exact br_f h0 (br_t h8 (br_f h0 (br_t (Int32.lt_of_lt_of_le (nI_lt (a := 8191) (b := 8192) (by decide) (by decide)) h8) ⟨rfl, J⟩)))
  have c0 : ¬ nI c < 0 := nI_pos (by omega)
  have c8 : ¬ (8191 : Int32) < nI c := nI_nlt (a := 8191) (b := c) (by omega) (by decide)
  refine br_f c0 (br_f (nI_ge (b := 8192) hc (by decide)) ?_)
  rcases wn_ix v2 (n := 9) (by decide) with h | ⟨l, hl, rfl⟩
  · exact wn_lenXb h (br_t rfl (br_f c0 (br_f c8 (br_c (fun _ => ⟨rfl, J⟩) (fun z => br_f (wn_lit (a := 8) (by decide) (by decide) (h.resolve_left z)) ⟨rfl, J⟩)))))
  have hl' : l ≤ 8 := by omega
  have l0 : ¬ nI l < 0 := nI_pos (by omega)
  have l8 : nI l ≤ 8 := nI_le (b := 8) hl' (by decide)
  obtain ⟨m, em⟩ : ∃ m, m = c / 2048 := ⟨_, rfl⟩
  obtain ⟨a, ea⟩ : ∃ a, a = c % 2048 := ⟨_, rfl⟩
  have e1 : nI c / 2048 = nI m := (pk_div (d := 2048) (by omega) (by decide) (by decide)).trans (congrArg nI em.symm)
  have e2 : nI c - nI c / 2048 * 2048 = nI a := (pk_rem (d := 2048) (by omega) (by decide) (by decide)).trans (congrArg nI ea.symm)
  have hm : m < 4 := by omega
  have ha : a < 2048 := by omega
  have vm : vp_in (nI m) 4 := vp_in_nI hm (by decide)
  refine wn_lenXg hl' (br_f (by decide) ⟨by decide, nm_r e1 ⟨by decide, nm_r e2 (wn_findX hC hI ha (fun q hq tk e => ?_) (fun hn => ?_))⟩⟩)
  · refine br_f (wn_ne2 (by omega)) (br_f c0 (br_f c8 (br_f l0 (br_t l8 ⟨by decide, nm_r e1 ⟨by decide, wn_findYe e2 hC hI hL ha (fun q' hq' _ _ => br_f (nI_pos (by omega)) ⟨rfl, J⟩) (fun hn => absurd e (hn q hq tk))⟩⟩))))
  have hcm := hC m
  have ec : nI (C (nI m).toNatClampNeg) = nI (C m) := wn_at C (by omega)
  by_cases hf : C m < 4
  · have e4 : nI m * 4 + nI (C (nI m).toNatClampNeg) = nI (4 * m + C m) := by
      rw [ec]
      show nI m * nI 4 + _ = _
      rw [pk_mul, nI_add, Nat.mul_comm]
    have e4' : 4 * nI m + nI (C (nI m).toNatClampNeg) = nI (4 * m + C m) := by
      rw [ec]
      show nI 4 * nI m + _ = _
      rw [pk_mul, nI_add]
    have vp : vp_in (nI (4 * m + C m)) 16 := vp_in_nI (by omega) (by decide)
    have vp' : vp_in (4 * nI m + nI (C (nI m).toNatClampNeg)) 16 := pk_in (4 * m + C m) 16 (by omega) e4'
    have ecnt : upd (fun z => nI (C z)) (nI m).toNatClampNeg (nI (C (nI m).toNatClampNeg) + 1) = fun z => nI (wn_set C m (C m + 1) z) := by
      rw [ec, nI_1]
      exact wn_uset (g := C) (by omega)
    have eD : vp_updL ad (4 * nI m + nI (C (nI m).toNatClampNeg)).toNatClampNeg (wn_dv (nI l) a2) = vp_updL ad (nI (4 * m + C m)).toNatClampNeg (wn_dv (nI l) a2) := by rw [e4']
    have eH : upd (fun z => nI (16 * I z + L z)) (4 * nI m + nI (C (nI m).toNatClampNeg)).toNatClampNeg (16 * (nI c - nI c / 2048 * 2048) + nI l) = fun z => nI (16 * wn_set I (4 * m + C m) a z + wn_set L (4 * m + C m) l z) := by
      rw [e4', e2, nI_clamp (by omega), show (16 : Int32) * nI a = nI (16 * a) from pk_mul 16 a, nI_add]
      funext z
      by_cases ez : z = 4 * m + C m
      · subst ez
        rw [pk_us, wn_set_s, wn_set_s]
      · rw [pk_un ez, wn_set_n ez, wn_set_n ez]
    have fin : i_Rel (k + 5) (nI T, xs, nI D, xw, xq, xi, xg, xb, xc, (fun z => nI ((wn_set I (4 * m + C m) a) z)), (fun z => nI ((wn_set L (4 * m + C m) l) z)), vp_updL ad (nI (4 * m + C m)).toNatClampNeg (wn_dv (nI l) a2), (fun z => nI ((wn_set C m (C m + 1)) z)), bf, bd, (fun z => nI (B z)), mi, fm, fv, fo, (fun z => nI (S z)), (fun z => nI (E z))) (nI T, xs, nI H, xw, yr, yf, yg, yl, yu, yi, yo, ya, yn, yk, on, fm, fv, (fun z => nI (S z)), (fun z => nI (E z)), mi, (fun z => nI ((wn_set C m (C m + 1)) z)), (fun z => nI (16 * (wn_set I (4 * m + C m) a) z + (wn_set L (4 * m + C m) l) z)), vp_updL ad (nI (4 * m + C m)).toNatClampNeg (wn_dv (nI l) a2), (fun z => nI (B z)), bf, bd) :=
      wn_mk5 hT ⟨⟨g1, g2, g3⟩, wn_set_lt hI ha, wn_set_le hL hl', wn_set_le hC (by omega), hB, hS, hE, hO, wn_dis_post hf hd hn⟩
        (wn_ph_up (fun p _ tp => ⟨(wn_tk_up hf tp).1, wn_set_n (wn_tk_up hf tp).2⟩) P)
    refine br_t rfl ⟨vm, br_t (show nI (C (nI m).toNatClampNeg) < 4 by rw [ec]; exact nI_lt (b := 4) hf (by decide)) ⟨vm, nm_r e4 ⟨vp, nm_r (wn_uset (g := C) (by omega)) ⟨vp, nm_r (wn_uset (g := C) (by omega)) (wn_lowX ⟨vp, nm_e ⟨vm, vm, nm_r ecnt ⟨vm, ?_⟩⟩⟩)⟩⟩⟩⟩
    exact br_f c0 (br_f c8 (br_f l0 (br_t l8 ⟨by decide, nm_r e1 ⟨by decide, wn_findYe e2 hC hI hL ha (fun q hq tk e => absurd e (hn q hq tk)) (fun _ => br_t wn_neg ⟨vm, br_f (show ¬ nI (C (nI m).toNatClampNeg) = 4 by rw [ec]; exact fun z => by have := (nI_eq (b := 4) (by omega) (by decide)).mp z; omega) ⟨vm, by decide, vp', nm_r eH ⟨vm, wn_cutY ⟨vp', nm_r eD ⟨vm, vm, nm_r ecnt ⟨vm, rfl, fin⟩⟩⟩⟩⟩⟩)⟩⟩)))
  · have hf4 : C m = 4 := by omega
    refine br_t rfl ⟨vm, br_f (show ¬ nI (C (nI m).toNatClampNeg) < 4 by rw [ec]; exact nI_nlt (b := 4) (by omega) (by omega)) ?_⟩
    exact br_f c0 (br_f c8 (br_f l0 (br_t l8 ⟨by decide, nm_r e1 ⟨by decide, wn_findYe e2 hC hI hL ha (fun q hq tk e => absurd e (hn q hq tk)) (fun _ => br_t wn_neg ⟨vm, br_t (show nI (C (nI m).toNatClampNeg) = 4 by rw [ec, hf4]; rfl) ⟨rfl, J⟩⟩)⟩⟩)))
section
variable {xt xs xe xw xq xi xg xb xc : Int32} {ai al ac bf bc mi fm fv fo es er : Nat → Int32} {ad bd : Nat → Int64}
variable {yt ys ye yp yr yf yg yl yu yi yo ya yn yk : Int32} {on ma va se re ms ww wh bn bh : Nat → Int32} {wt bx : Nat → Int64}
variable {I L C B S E : Nat → Nat} {post : SY → Prop}
theorem wn_rmYP {k : Nat} {yp : Int32} (hC : ∀ m, C m ≤ 4) (hk : k < 16) (ht : wn_tk C k) (hp : ¬ yp = 1)
    (h : post (yt, ys, ye, yp, yr, yf, yg, yl, yu, yi, yo, ya, yn, yk, on, fm, fv, (fun z => nI (S z)), (fun z => nI (E z)), mi, (fun z => nI ((wn_C1 C (k / 4)) z)), (fun z => nI (16 * (wn_shf k (wn_end C k) I) z + (wn_shf k (wn_end C k) L) z)), wn_shf k (wn_end C k) ad, (fun z => nI (B z)), bf, bd)) : wpY_takeOut post (yt, ys, ye, yp, yr, yf, yg, yl, yu, yi, yo, ya, yn, yk, on, fm, fv, (fun z => nI (S z)), (fun z => nI (E z)), mi, (fun z => nI (C z)), (fun z => nI (16 * I z + L z)), ad, (fun z => nI (B z)), bf, bd) (nI k) := by
  refine wn_rmY hC hk ht hp ?_
  rw [wn_shf_h]
  exact h
theorem wn_rmYP28 {k a : Nat} {z0 : Int32} (hC : ∀ m, C m ≤ 4) (hk : k < 16) (ht : wn_tk C k) (hz : z0 = nI a) (ha : a < 2048)
    (h : wpY_find (fun r => post (yt, ys, ye, yp, yr, r, yg, yl, yu, yi, yo, ya, yn, yk, on, fm, fv, (fun z => nI (S z)), (fun z => nI (E z)), mi, (fun z => nI ((wn_C1 C (k / 4)) z)), (fun z => nI (16 * (wn_shf k (wn_end C k) I) z + (wn_shf k (wn_end C k) L) z)), wn_shf k (wn_end C k) ad, (fun z => nI (B z)), bf, bd)) (yt, ys, ye, yp, yr, yf, yg, yl, yu, yi, yo, ya, yn, yk, on, fm, fv, (fun z => nI (S z)), (fun z => nI (E z)), mi, (fun z => nI ((wn_C1 C (k / 4)) z)), (fun z => nI (16 * (wn_shf k (wn_end C k) I) z + (wn_shf k (wn_end C k) L) z)), wn_shf k (wn_end C k) ad, (fun z => nI (B z)), bf, bd) (nI a)) :
    wY_takeOut_28 post (nI k) (nI (k / 4)) z0 yt ys ye yp yr yf yg yl yu yi yo ya yn yk on fm fv (fun z => nI (S z)) (fun z => nI (E z)) mi (fun z => nI (C z)) (fun z => nI (16 * I z + L z)) ad (fun z => nI (B z)) bf bd := by
  subst hz
  refine wn_rmY28 hC hk ht (br_f (nI_pos (by omega)) ?_)
  rw [wn_shf_h]
  exact h
end
theorem i_vc_cancel {k : Nat} {u : SX} {v : SY} (I : i_Rel k u v) (hk : k + 5 ≤ 2560) (v1 : Int32) : wpX_cancel (fun r u' => wpY_cancel (fun r' v' => r' = r ∧ i_Rel (k + 5) u' v') v v1) u v1 := by
  have J := i_up I
  obtain ⟨T, hT, D, H, xs, xw, xq, xi, xg, xb, xc, yr, yf, yg, yl, yu, yi, yo, ya, yn, yk, I, L, C, B, S, E, ad, bd, bf, mi, fm, fv, fo, on, rfl, rfl, G, P⟩ := I
  obtain ⟨⟨g1, g2, g3⟩, hI, hL, hC, hB, hS, hE, hO, hd⟩ := G
  rcases wn_ix v1 (n := 2048) (by decide) with h | ⟨a, ha, rfl⟩
  · unfold wpX_cancel wpY_cancel
    exact wn_idXb h (br_t rfl (wn_idYb h (br_f (by decide) ⟨rfl, J⟩)))
  unfold wpX_cancel
  refine wn_idXg ha (br_f (by decide) (wn_findX hC hI ha (fun q hq tk e => ?_) (fun hn => ?_)))
  · have yw : ∀ post : Int32 → SY → Prop, ((xw = 1 → ((yf = nI q → post (-5) (nI T, xs, nI H, xw, yr, yf, yg, yl, yu, yi, yo, ya, yn, yk, on, fm, fv, (fun z => nI (S z)), (fun z => nI (E z)), mi, (fun z => nI (C z)), (fun z => nI (16 * I z + L z)), ad, (fun z => nI (B z)), bf, bd)) ∧ (¬ yf = nI q → wY_cancel_42 post (nI q) (nI T) xs (nI H) xw yr yf yg yl yu yi yo ya yn yk on fm fv (fun z => nI (S z)) (fun z => nI (E z)) mi (fun z => nI (C z)) (fun z => nI (16 * I z + L z)) ad (fun z => nI (B z)) bf bd))) ∧ (¬ xw = 1 → wY_cancel_42 post (nI q) (nI T) xs (nI H) xw yr yf yg yl yu yi yo ya yn yk on fm fv (fun z => nI (S z)) (fun z => nI (E z)) mi (fun z => nI (C z)) (fun z => nI (16 * I z + L z)) ad (fun z => nI (B z)) bf bd)) → wpY_cancel post (nI T, xs, nI H, xw, yr, yf, yg, yl, yu, yi, yo, ya, yn, yk, on, fm, fv, (fun z => nI (S z)), (fun z => nI (E z)), mi, (fun z => nI (C z)), (fun z => nI (16 * I z + L z)), ad, (fun z => nI (B z)), bf, bd) (nI a) := by
      intro post hz
      unfold wpY_cancel
      refine wn_idYg ha (br_t rfl (wn_findY hC hI hL ha (fun q' hq' tk' e' => ?_) (fun hn => absurd e (hn q hq tk))))
      have eq : q' = q := hd q' q hq' hq tk' tk (e'.trans e.symm)
      subst eq
      exact br_t (nI_pos' (by omega)) hz
    refine br_f (wn_ne2 (by omega)) ?_
    have gg := wn_dis_rm hC hq tk hd
    have hI' := wn_shf_lt (k := q) (e := wn_end C q) hI
    have hL' := wn_shf_le (k := q) (e := wn_end C q) hL
    have hC' := wn_C1_le (m := q / 4) hC
    by_cases h1 : xw = 1
    · rcases P with h | ⟨h, p, g, b, n, hp, ht, e1, e2, rest⟩ | ⟨h, -⟩
      · exact absurd h1 (wn_not1 (Or.inl h))
      · by_cases epq : q = p
        · subst epq
          exact br_t h1 (br_t (e1.trans (congrArg nI e)) (yw _ (br_t h1 (br_t e2 ⟨rfl, J⟩))))
        · have hx : ¬ xi = nI a := fun z => by
            have z2 := (nI_eq (by have := hI p; omega) (by omega)).mp (e1.symm.trans z)
            exact epq (hd q p hq hp tk ht (e.trans z2.symm))
          have hy : ¬ yf = nI q := fun z => epq ((nI_eq (by omega) (by omega)).mp (z.symm.trans e2))
          obtain ⟨p', hp', ht', hf'⟩ := wn_dst hC hq tk hp ht (Ne.symm epq)
          refine br_t h1 (br_f hx ?_)
          unfold wX_cancel_43
          refine wn_rmXP hC hq tk ⟨by decide, yw _ (br_t h1 (br_f hy ?_))⟩
          unfold wY_cancel_42 wpY_takeOut
          refine ⟨by decide, nm_r (wn_q q (by omega)).1 (br_t h1 ⟨by rw [e2]; exact vp_in_nI hp (by decide), by decide, wn_rmYP28 (a := I p) hC hq tk ?_ (hI p) ?_⟩)⟩
          · rw [e2]
            show nI (16 * I (nI p).toNatClampNeg + L (nI p).toNatClampNeg) / 16 = nI (I p)
            rw [nI_clamp (by omega)]
            exact (wn_h16 (hI p) (hL p)).1
          · refine wn_findY hC' hI' hL' (hI p) (fun r hr tr er => ?_) (fun hn => absurd (hf' I) (hn p' hp' ht'))
            have err : r = p' := gg r p' hr hp' tr ht' (er.trans (hf' I).symm)
            subst err
            refine ⟨by decide, rfl, wn_mk5 hT ⟨⟨g1, g2, g3⟩, hI', hL', hC', hB, hS, hE, hO, gg⟩ (Or.inr (Or.inl ⟨h1, r, g, b, n, hr, tr, ?_, rfl, rest⟩))⟩
            rw [hf' I]
            exact e1
      · exact absurd h1 (wn_not1 (Or.inr h))
    · refine br_f h1 ?_
      unfold wX_cancel_43
      refine wn_rmXP hC hq tk ⟨by decide, yw _ (br_f h1 ?_)⟩
      unfold wY_cancel_42
      refine wn_rmYP hC hq tk h1 ⟨by decide, rfl, wn_mk5 hT ⟨⟨g1, g2, g3⟩, hI', hL', hC', hB, hS, hE, hO, gg⟩ ?_⟩
      rcases P with h | ⟨h, -⟩ | h
      · exact Or.inl h
      · exact absurd h h1
      · exact Or.inr (Or.inr h)
  · unfold wpY_cancel
    exact br_t rfl (wn_idYg ha (br_t rfl (wn_findY hC hI hL ha (fun q hq tk e => absurd e (hn q hq tk)) (fun _ => br_f (by decide) ⟨rfl, J⟩))))
