/-! take, bitsOf, post, cancel, the constructors -/
section
variable {xt xs xe xw xq xi xg xb xc : Int32} {ai al ac bf bc mi fm fv fo es er : Nat → Int32} {ad bd : Nat → Int64}
theorem wn_tkX {B : Nat → Nat} {k e m : Nat} {r : Int32} {post : Int32 → SX → Prop} (he : e < 24) (hm : m < 4) (hB : 6 * m + B m = e) (h : post r (xt, xs, xe, xw, xq, xi, xg, xb, xc, ai, al, ad, ac, wn_shf k e bf, wn_shf k e bd, (fun z => nI (B z)), mi, fm, fv, fo, es, er)) : ∀ d j, j + d = e → k ≤ j →
    wX_take_46 post (nI m) (nI (6 * m)) r xt xs xe xw xq xi xg xb xc (d + 1) (nI j) ai al ad ac (wn_shf k j bf) (wn_shf k j bd) (fun z => nI (B z)) mi fm fv fo es er := by
  have vm : vp_in (nI m) 4 := vp_in_nI hm (by decide)
  have e3 : nI (6 * m) + nI (B (nI m).toNatClampNeg) = nI e := by rw [nI_clamp (by omega), nI_add, hB]
  intro d
  induction d with
  | zero =>
    intro j hj hk
    have e1 : j = e := by omega
    subst e1
    exact ⟨vm, pk_le j j (fun _ => h) (fun z => by omega) e3 rfl (by omega) (by omega)⟩
  | succ d ih =>
    intro j hj hk
    have v1 : vp_in (nI j + 1) 24 := pk_in (j + 1) 24 (by omega) (nI_1 j)
    have v0 : vp_in (nI j) 24 := vp_in_nI (by omega) (by decide)
    exact ⟨vm, pk_le e j (fun z => by omega) (fun _ => ⟨v1, v0, nm_r (wn_rs hk (by omega)) ⟨v1, v0, nm_r (wn_rsL hk (by omega)) (nm_r (nI_1 j) (ih (j + 1) (by omega) (by omega)))⟩⟩) e3 rfl (by omega) (by omega)⟩
end
section
variable {yt ys ye yp yr yf yg yl yu yi yo ya yn yk : Int32} {on ma va se re ms ww wh bn bh : Nat → Int32} {wt bx : Nat → Int64}
theorem wn_tkY {B : Nat → Nat} {k e m : Nat} {r : Int32} {post : Int32 → SY → Prop} (he : e < 24) (hm : m < 4) (hB : 6 * m + B m = e) (h : post r (yt, ys, ye, yp, yr, yf, yg, yl, yu, yi, yo, ya, yn, yk, on, ma, va, se, re, ms, ww, wh, wt, (fun z => nI (B z)), wn_shf k e bh, wn_shf k e bx)) : ∀ d j, j + d = e → k ≤ j →
    wY_take_47 post (nI m) r yt ys ye yp yr yf yg yl yu yi yo ya yn yk (d + 1) (nI j) on ma va se re ms ww wh wt (fun z => nI (B z)) (wn_shf k j bh) (wn_shf k j bx) := by
  have vm : vp_in (nI m) 4 := vp_in_nI hm (by decide)
  have e3 : 6 * nI m + nI (B (nI m).toNatClampNeg) = nI e := by
    rw [nI_clamp (by omega)]
    show nI 6 * nI m + _ = _
    rw [pk_mul, nI_add, hB]
  intro d
  induction d with
  | zero =>
    intro j hj hk
    have e1 : j = e := by omega
    subst e1
    exact ⟨vm, pk_le j j (fun _ => h) (fun z => by omega) e3 rfl (by omega) (by omega)⟩
  | succ d ih =>
    intro j hj hk
    have v1 : vp_in (nI j + 1) 24 := pk_in (j + 1) 24 (by omega) (nI_1 j)
    have v0 : vp_in (nI j) 24 := vp_in_nI (by omega) (by decide)
    exact ⟨vm, pk_le e j (fun z => by omega) (fun _ => ⟨v1, v0, nm_r (wn_rs hk (by omega)) ⟨v1, v0, nm_r (wn_rsL hk (by omega)) (nm_r (nI_1 j) (ih (j + 1) (by omega) (by omega)))⟩⟩) e3 rfl (by omega) (by omega)⟩
end
theorem i_vc_take {k : Nat} {u : SX} {v : SY} (I : i_Rel k u v) (hk : k + 5 ≤ 2560) (v1 : Int32) : wpX_take (fun r u' => wpY_take (fun r' v' => r' = r ∧ i_Rel (k + 5) u' v') v v1) u v1 := by
  have J := i_up I
  obtain ⟨T, hT, D, H, xs, xw, xq, xi, xg, xb, xc, yr, yf, yg, yl, yu, yi, yo, ya, yn, yk, I, L, C, B, S, E, ad, bd, bf, mi, fm, fv, fo, on, rfl, rfl, G, P⟩ := I
  obtain ⟨⟨g1, g2, g3⟩, hI, hL, hC, hB, hS, hE, hO, hd⟩ := G
  unfold wpX_take wpY_take
  rcases wn_ix v1 (n := 4) (by decide) with h | ⟨j, hj, rfl⟩
  · exact wn_nodeXb h (br_t rfl (wn_nodeYb h (br_f (by decide) ⟨rfl, J⟩)))
  have vj : vp_in (nI j) 4 := vp_in_nI hj (by decide)
  have eb : nI (B (nI j).toNatClampNeg) = nI (B j) := wn_at B (by omega)
  have hb := hB j
  refine wn_nodeXg hj (br_f (by decide) ⟨vj, ?_⟩)
  by_cases h0 : B j = 0
  · have z0 : nI (B (nI j).toNatClampNeg) = 0 := by rw [eb, h0]; exact nI_0
    exact br_t z0 (wn_nodeYg hj (br_t rfl ⟨vj, br_t z0 ⟨rfl, J⟩⟩))
  have z0 : ¬ nI (B (nI j).toNatClampNeg) = 0 := by rw [eb]; exact nI_ne0 (by omega) (by omega)
  have e6 : nI j * 6 = nI (6 * j) := by
    show nI j * nI 6 = _
    rw [pk_mul, Nat.mul_comm]
  have e6' : 6 * nI j = nI (6 * j) := by
    show nI 6 * nI j = _
    rw [pk_mul]
  have v6 : vp_in (nI (6 * j)) 24 := vp_in_nI (by omega) (by decide)
  have hB1 : 6 * j + wn_C1 B j j = 6 * j + (B j - 1) := by rw [show wn_C1 B j j = B j - 1 from wn_set_s]
  have hB1' : ∀ m, wn_C1 B j m ≤ 6 := wn_set_le hB (by omega)
  have fin : i_Rel (k + 5) (nI T, xs, nI D, xw, xq, xi, xg, xb, xc, (fun z => nI (I z)), (fun z => nI (L z)), ad, (fun z => nI (C z)), wn_shf (6 * j) (6 * j + (B j - 1)) bf, wn_shf (6 * j) (6 * j + (B j - 1)) bd, (fun z => nI ((wn_C1 B j) z)), mi, fm, fv, fo, (fun z => nI (S z)), (fun z => nI (E z))) (nI T, xs, nI H, xw, yr, yf, yg, yl, yu, yi, yo, ya, yn, yk, on, fm, fv, (fun z => nI (S z)), (fun z => nI (E z)), mi, (fun z => nI (C z)), (fun z => nI (16 * I z + L z)), ad, (fun z => nI ((wn_C1 B j) z)), wn_shf (6 * j) (6 * j + (B j - 1)) bf, wn_shf (6 * j) (6 * j + (B j - 1)) bd) :=
    wn_mk5 hT ⟨⟨g1, g2, g3⟩, hI, hL, hC, hB1', hS, hE, hO, hd⟩ P
  have Y1 := wn_tkY (r := bf (nI (6 * j)).toNatClampNeg) (post := fun r' v' => r' = bf (nI (6 * j)).toNatClampNeg ∧ i_Rel (k + 5) (nI T, xs, nI D, xw, xq, xi, xg, xb, xc, (fun z => nI (I z)), (fun z => nI (L z)), ad, (fun z => nI (C z)), wn_shf (6 * j) (6 * j + (B j - 1)) bf, wn_shf (6 * j) (6 * j + (B j - 1)) bd, (fun z => nI ((wn_C1 B j) z)), mi, fm, fv, fo, (fun z => nI (S z)), (fun z => nI (E z))) v') (by omega) hj hB1 ⟨rfl, fin⟩ (B j - 1) (6 * j) (by omega) (Nat.le_refl _)
  simp only [wn_shf_0] at Y1
  have HX : (fun (r : Int32) (u' : SX) => wpY_take (fun r' v' => r' = r ∧ i_Rel (k + 5) u' v') (nI T, xs, nI H, xw, yr, yf, yg, yl, yu, yi, yo, ya, yn, yk, on, fm, fv, (fun z => nI (S z)), (fun z => nI (E z)), mi, (fun z => nI (C z)), (fun z => nI (16 * I z + L z)), ad, (fun z => nI (B z)), bf, bd) (nI j)) (bf (nI (6 * j)).toNatClampNeg) (nI T, xs, nI D, xw, xq, xi, xg, xb, xc, (fun z => nI (I z)), (fun z => nI (L z)), ad, (fun z => nI (C z)), wn_shf (6 * j) (6 * j + (B j - 1)) bf, wn_shf (6 * j) (6 * j + (B j - 1)) bd, (fun z => nI ((wn_C1 B j) z)), mi, fm, fv, fo, (fun z => nI (S z)), (fun z => nI (E z))) := by
    show wpY_take _ _ _
    unfold wpY_take
    exact wn_nodeYg hj (br_t rfl ⟨vj, br_f z0 ⟨by rw [e6']; exact v6, nm_r (by rw [e6']) ⟨vj, vj, nm_r (wn_cnt (by omega) (by omega)) (nm_r e6' ⟨_, Y1⟩)⟩⟩⟩)
  have X1 := wn_tkX (bf := bf) (bd := bd) (k := 6 * j) (r := bf (nI (6 * j)).toNatClampNeg) (post := fun r u' => wpY_take (fun r' v' => r' = r ∧ i_Rel (k + 5) u' v') (nI T, xs, nI H, xw, yr, yf, yg, yl, yu, yi, yo, ya, yn, yk, on, fm, fv, (fun z => nI (S z)), (fun z => nI (E z)), mi, (fun z => nI (C z)), (fun z => nI (16 * I z + L z)), ad, (fun z => nI (B z)), bf, bd) (nI j)) (by omega) hj hB1 HX (B j - 1) (6 * j) (by omega) (Nat.le_refl _)
  simp only [wn_shf_0] at X1
  exact br_f z0 (nm_r e6 ⟨v6, nm_e ⟨vj, vj, nm_r (wn_cnt (by omega) (by omega)) ⟨_, X1⟩⟩⟩)
theorem i_vc_bitsOf {k : Nat} {u : SX} {v : SY} (I : i_Rel k u v) (hk : k + 5 ≤ 2560) (v1 : Int32) (v2 : Int32) (a2 : Int64) : wpX_bitsOf (fun r => wpY_bitsOf (fun r' v' => r' = r ∧ i_Rel (k + 5) u v') v v1 v2 a2) u v1 v2 a2 := by
  have J := i_up I
  obtain ⟨T, hT, D, H, xs, xw, xq, xi, xg, xb, xc, yr, yf, yg, yl, yu, yi, yo, ya, yn, yk, I, L, C, B, S, E, ad, bd, bf, mi, fm, fv, fo, on, rfl, rfl, G, P⟩ := I
  unfold wpX_bitsOf wpY_bitsOf
  rcases wn_ix v1 (n := 2048) (by decide) with h | ⟨a, ha, rfl⟩
  · exact wn_idXb h (br_t rfl (wn_idYb h (br_f (by decide) ⟨rfl, J⟩)))
  refine wn_idXg ha (br_f (by decide) ?_)
  rcases wn_ix v2 (n := 9) (by decide) with h | ⟨l, hl, rfl⟩
  · exact wn_lenXb h (br_t rfl (wn_idYg ha (br_t rfl (br_c (fun _ => ⟨rfl, J⟩) (fun z => br_f (wn_lit (a := 8) (by decide) (by decide) (h.resolve_left z)) ⟨rfl, J⟩)))))
  obtain ⟨n, hn, rfl⟩ := wb_of a2
  have hl' : l ≤ 8 := by omega
  refine wn_lenXg hl' (br_f (by decide) (wn_check ha hl' hn ?_))
  have e34 : (19 : Int32) + 8 * nI l + 15 = nI (34 + 8 * l) := by
    rw [wn_19]
    exact (nI_add _ 15).trans (congrArg nI (by omega))
  refine nm_r e34 (wn_out ha hl' hn (wn_C_lt _ _) (Nat.le_refl _) ?_)
  refine wn_idYg ha (br_t rfl (br_f (nI_pos (by omega)) (br_t (nI_le (b := 8) hl' (by decide)) ?_)))
  exact wn_meas ha hl' hn rfl rfl ⟨rfl, wn_mk5 hT G P⟩
def wn_on (j : Nat) : Nat → Int32 := fun n => if n < j then 1 else 0
theorem wn_on_s {j : Nat} (hj : j < 100) : upd (wn_on j) (nI j).toNatClampNeg (vp_nar .boolean 1) = wn_on (j + 1) := by
  rw [nI_clamp (by omega), wn_nb1]
  funext p
  by_cases e : p = j
  · subst e
    rw [pk_us]
    exact (if_pos (by omega)).symm
  · rw [pk_un e]
    unfold wn_on
    by_cases h : p < j
    · rw [if_pos h, if_pos (by omega)]
    · rw [if_neg h, if_neg (by omega)]
section
variable {yt ys ye yp yr yf yg yl yu yi yo ya yn yk : Int32} {on ma va se re ms ww wh bn bh : Nat → Int32} {wt bx : Nat → Int64}
theorem wn_initL {post : SY → Prop} (h : post (yt, ys, ye, yp, yr, yf, yg, yl, yu, yi, yo, ya, yn, yk, wn_on 4, ma, va, se, re, ms, ww, wh, wt, bn, bh, bx)) : ∀ d j, j + d = 4 → wY_init_94 post yt ys ye yp yr yf yg yl yu yi yo ya yn yk (d + 1) (nI j) (wn_on j) ma va se re ms ww wh wt bn bh bx := by
  intro d
  induction d with
  | zero =>
    intro j hj
    have e : j = 4 := by omega
    subst e
    exact br_t (by decide) h
  | succ d ih =>
    intro j hj
    exact br_f (nI_ge (b := 4) (by omega) (by decide)) ⟨vp_in_nI (by omega) (by decide), nm_r (wn_on_s (by omega)) (nm_r (nI_1 j) (ih (j + 1) (by omega)))⟩
end
theorem i_vc0 : wpX_init (fun u => wpY_init (fun v => i_Rel 0 u v)) := by
  unfold wpX_init wpY_init
  refine ⟨5, wn_initL ?_ 4 0 rfl⟩
  refine ⟨0, by omega, 0, 0, 0, 0, 0, 0, 0, 0, 0, 0, 0, 0, 0, 0, 0, 0, 0, 0, 0, fun _ => 0, fun _ => 0, fun _ => 0, fun _ => 0, fun _ => 0, fun _ => 0, fun _ => 0, fun _ => 0, fun _ => 0, fun _ => 0, fun _ => 0, fun _ => 0, fun _ => 0, wn_on 4, rfl, rfl, ?_, Or.inl rfl⟩
  refine ⟨⟨by omega, by omega, by omega⟩, fun _ => Nat.zero_lt_succ 2047, fun _ => Nat.zero_le 8, fun _ => Nat.zero_le 4, fun _ => Nat.zero_le 6, fun _ => Nat.zero_le _, fun _ => Nat.zero_le 255, fun m hm => Or.inl ⟨rfl, if_pos hm⟩, ?_⟩
  intro p q _ _ tp
  exact absurd tp (Nat.not_lt_zero _)
