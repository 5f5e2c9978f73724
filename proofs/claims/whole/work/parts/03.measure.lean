/-! Y's measure against the same fold -/
section
variable {yt ys ye yp yr yf yg yl yu yi yo ya yn yk : Int32} {on ma va se re ms ww wh bn bh : Nat → Int32} {wt bx : Nat → Int64}
variable {post : SY → Prop}
theorem wn_yput {b s1 s2 s3 : Nat} (hb : b ≤ 1) (h2 : s2 ≤ 1) (h3 : s3 ≤ 5)
    (h : post (yt, ys, ye, yp, yr, yf, yg, yl, yu, yi, nI (wn_put b (s1, s2, s3)).1, nI (wn_put b (s1, s2, s3)).2.1, nI (wn_put b (s1, s2, s3)).2.2, yk, on, ma, va, se, re, ms, ww, wh, wt, bn, bh, bx)) :
    wpY_put post (yt, ys, ye, yp, yr, yf, yg, yl, yu, yi, nI s1, nI s2, nI s3, yk, on, ma, va, se, re, ms, ww, wh, wt, bn, bh, bx) (nI b) := by
  unfold wpY_put
  by_cases e : s3 = 5
  · have ht : wn_put b (s1, s2, s3) = (s1 + 2, b, if b = 1 - s2 then 2 else 1) := if_pos e
    rw [ht] at h
    refine br_t (show nI s3 = 5 from congrArg nI e) (nm_r (pk_sub (a := 1) h2) (nm_r (nI_1 s1) ?_))
    unfold wY_put_33
    by_cases e2 : b = 1 - s2
    · rw [if_pos e2] at h
      refine br_t (congrArg nI e2) ?_
      unfold wY_put_52
      rw [show (1 : Int32) + 1 = nI 2 from nI_1 1]
      exact nm_r (nI_1 (s1 + 1)) h
    · rw [if_neg e2] at h
      refine br_f (fun z => e2 ((nI_eq (by omega) (by omega)).mp z)) ?_
      unfold wY_put_52
      exact nm_r (nI_1 (s1 + 1)) h
  · have ht : wn_put b (s1, s2, s3) = (s1 + 1, b, if b = s2 then s3 + 1 else 1) := if_neg e
    rw [ht] at h
    refine br_f (fun z => e ((nI_eq (b := 5) (by omega) (by decide)).mp z)) ?_
    unfold wY_put_33
    by_cases e2 : b = s2
    · rw [if_pos e2] at h
      refine br_t (congrArg nI e2) ?_
      unfold wY_put_52
      rw [nI_1 s3]
      exact nm_r (nI_1 s1) h
    · rw [if_neg e2] at h
      refine br_f (fun z => e2 ((nI_eq (by omega) (by omega)).mp z)) ?_
      unfold wY_put_52
      exact nm_r (nI_1 s1) h
theorem wn_yputc {b c s1 s2 s3 : Nat} (hb : b ≤ 1) (h2 : s2 ≤ 1) (h3 : s3 ≤ 5) (hc : c < 32768)
    (h : post (yt, ys, ye, yp, yr, yf, yg, yl, yu, yi, nI (wn_put b (s1, s2, s3)).1, nI (wn_put b (s1, s2, s3)).2.1, nI (wn_put b (s1, s2, s3)).2.2, nI (wn_cs b c), on, ma, va, se, re, ms, ww, wh, wt, bn, bh, bx)) :
    wpY_putChecked post (yt, ys, ye, yp, yr, yf, yg, yl, yu, yi, nI s1, nI s2, nI s3, nI c, on, ma, va, se, re, ms, ww, wh, wt, bn, bh, bx) (nI b) := by
  unfold wpY_putChecked
  refine wn_yput hb h2 h3 ?_
  refine nm_r (wn_fY hb hc) (nm_r (wn_dY hc) ?_)
  by_cases e : b = c / 16384
  · have hs : wn_cs b c = 2 * c % 32768 := if_pos e
    rw [hs] at h
    rw [if_pos e]
    exact br_f (by decide) h
  · have hs : wn_cs b c = (2 * c % 32768) ^^^ 17817 := if_neg e
    rw [hs] at h
    rw [if_neg e]
    exact br_t rfl (nm_r (wn_px _) h)
variable {F : Nat → Nat}
theorem wn_ystep {i : Nat} {x : Int32} (hF : ∀ j, F j ≤ 1) (e : x = nI (F i)) (h : post (yt, ys, ye, yp, yr, yf, yg, yl, yu, yi, nI (wn_P F (i + 1)).1, nI (wn_P F (i + 1)).2.1, nI (wn_P F (i + 1)).2.2, nI (wn_C F (i + 1)), on, ma, va, se, re, ms, ww, wh, wt, bn, bh, bx)) : wpY_putChecked post (yt, ys, ye, yp, yr, yf, yg, yl, yu, yi, nI (wn_P F i).1, nI (wn_P F i).2.1, nI (wn_P F i).2.2, nI (wn_C F i), on, ma, va, se, re, ms, ww, wh, wt, bn, bh, bx) x := by
  subst e
  obtain ⟨o1, o2, o3, o4⟩ := wn_P_ok hF i
  exact wn_yputc (hF i) o3 o4 (wn_C_lt F i) h
theorem wn_ystep1 {i c : Nat} {x : Int32} (hF : ∀ j, F j ≤ 1) (e : x = nI (F i)) (h : post (yt, ys, ye, yp, yr, yf, yg, yl, yu, yi, nI (wn_P F (i + 1)).1, nI (wn_P F (i + 1)).2.1, nI (wn_P F (i + 1)).2.2, nI c, on, ma, va, se, re, ms, ww, wh, wt, bn, bh, bx)) : wpY_put post (yt, ys, ye, yp, yr, yf, yg, yl, yu, yi, nI (wn_P F i).1, nI (wn_P F i).2.1, nI (wn_P F i).2.2, nI c, on, ma, va, se, re, ms, ww, wh, wt, bn, bh, bx) x := by
  subst e
  obtain ⟨o1, o2, o3, o4⟩ := wn_P_ok hF i
  exact wn_yput (hF i) o3 o4 h
def wn_dn : Nat → Int32
  | 0 => -1
  | r + 1 => nI r
theorem wn_dn_s (r : Nat) : nI r + (-1) = wn_dn r := match r with
  | 0 => by decide
  | r + 1 => pk_m1 r
theorem wn_neg : (-1 : Int32) < 0 := by decide
/-- the check number's bits -/
theorem wn_m142 {N M : Nat} (hF : ∀ j, F j ≤ 1) (hN : N < 32768) (hb : ∀ r i, i + (r + 1) = M → r < 15 → F i = N / 2 ^ r % 2) (h : post (yt, ys, ye, yp, yr, yf, yg, yl, yu, yi, nI (wn_P F M).1, nI (wn_P F M).2.1, nI (wn_P F M).2.2, nI N, on, ma, va, se, re, ms, ww, wh, wt, bn, bh, bx)) :
    ∀ r i, i + r = M → r ≤ 15 → wY_measure_142 post (nI N) (r + 1) (wn_dn r) yt ys ye yp yr yf yg yl yu yi (nI (wn_P F i).1) (nI (wn_P F i).2.1) (nI (wn_P F i).2.2) (nI N) on ma va se re ms ww wh wt bn bh bx := by
  intro r
  induction r with
  | zero =>
    intro i hi _
    have e : i = M := by omega
    subst e
    exact br_t wn_neg h
  | succ r ih =>
    intro i hi hr
    refine br_f (nI_pos (by omega)) ?_
    refine wn_ystep1 (i := i) hF ?_ (nm_r (wn_dn_s r) (ih (i + 1) (by omega) (by omega)))
    rw [show wn_dn (r + 1) = nI r from rfl, wn_sh (by omega) (by omega), hb r i hi (by omega)]
/-- the data's bits -/
theorem wn_m110 {n N l : Nat} (hF : ∀ j, F j ≤ 1) (hn : n < 2 ^ 64) (hl : l ≤ 8) (hC : wn_C F (19 + 8 * l) = N) (hb : ∀ r i, i + (r + 1) = 19 + 8 * l → r < 8 * l → F i = n / 2 ^ r % 2)
    (h : ∃ m, wY_measure_142 post (nI N) m 14 yt ys ye yp yr yf yg yl yu yi (nI (wn_P F (19 + 8 * l)).1) (nI (wn_P F (19 + 8 * l)).2.1) (nI (wn_P F (19 + 8 * l)).2.2) (nI N) on ma va se re ms ww wh wt bn bh bx) :
    ∀ r i, i + r = 19 + 8 * l → r ≤ 8 * l → wY_measure_110 post (lN n) (r + 1) (wn_dn r) yt ys ye yp yr yf yg yl yu yi (nI (wn_P F i).1) (nI (wn_P F i).2.1) (nI (wn_P F i).2.2) (nI (wn_C F i)) on ma va se re ms ww wh wt bn bh bx := by
  intro r
  induction r with
  | zero =>
    intro i hi _
    have e : i = 19 + 8 * l := by omega
    subst e
    refine br_t wn_neg ?_
    rw [hC]
    exact h
  | succ r ih =>
    intro i hi hr
    refine br_f (nI_pos (by omega)) ?_
    refine wn_ystep (i := i) hF ?_ (nm_r (wn_dn_s r) (ih (i + 1) (by omega) (by omega)))
    rw [show wn_dn (r + 1) = nI r from rfl, wn_ush hn (by omega), hb r i hi (by omega)]
/-- the length's bits -/
theorem wn_m81 {n l : Nat} (hF : ∀ j, F j ≤ 1) (hl : l ≤ 8) (hb : ∀ r i, i + (r + 1) = 19 → r < 4 → F i = l / 2 ^ r % 2)
    (h : ∃ m, wY_measure_110 post (lN n) m (8 * nI l - 1) yt ys ye yp yr yf yg yl yu yi (nI (wn_P F 19).1) (nI (wn_P F 19).2.1) (nI (wn_P F 19).2.2) (nI (wn_C F 19)) on ma va se re ms ww wh wt bn bh bx) :
    ∀ r i, i + r = 19 → r ≤ 4 → wY_measure_81 post (nI l) (lN n) (r + 1) (wn_dn r) yt ys ye yp yr yf yg yl yu yi (nI (wn_P F i).1) (nI (wn_P F i).2.1) (nI (wn_P F i).2.2) (nI (wn_C F i)) on ma va se re ms ww wh wt bn bh bx := by
  intro r
  induction r with
  | zero =>
    intro i hi _
    have e : i = 19 := by omega
    subst e
    exact br_t wn_neg (nm_e h)
  | succ r ih =>
    intro i hi hr
    refine br_f (nI_pos (by omega)) ?_
    refine wn_ystep (i := i) hF ?_ (nm_r (wn_dn_s r) (ih (i + 1) (by omega) (by omega)))
    rw [show wn_dn (r + 1) = nI r from rfl, wn_sh (by omega) (by omega), hb r i hi (by omega)]
/-- three zeros -/
theorem wn_m61 {n l : Nat} (hF : ∀ j, F j ≤ 1) (hb : ∀ i, 12 ≤ i → i < 15 → F i = 0)
    (h : ∃ m, wY_measure_81 post (nI l) (lN n) m 3 yt ys ye yp yr yf yg yl yu yi (nI (wn_P F 15).1) (nI (wn_P F 15).2.1) (nI (wn_P F 15).2.2) (nI (wn_C F 15)) on ma va se re ms ww wh wt bn bh bx) :
    ∀ d j i, j + d = 3 → i + d = 15 → wY_measure_61 post (nI l) (lN n) (d + 1) (nI j) yt ys ye yp yr yf yg yl yu yi (nI (wn_P F i).1) (nI (wn_P F i).2.1) (nI (wn_P F i).2.2) (nI (wn_C F i)) on ma va se re ms ww wh wt bn bh bx := by
  intro d
  induction d with
  | zero =>
    intro j i hj hi
    have e : j = 3 := by omega
    subst e
    have e2 : i = 15 := by omega
    subst e2
    exact br_t (by decide) h
  | succ d ih =>
    intro j i hj hi
    refine br_f (nI_ge (b := 3) (by omega) (by decide)) ?_
    refine wn_ystep (i := i) hF ?_ (nm_r (nI_1 j) (ih (j + 1) (i + 1) (by omega) (by omega)))
    rw [hb i (by omega) (by omega), nI_0]
/-- the id's bits -/
theorem wn_m29 {a n l : Nat} (hF : ∀ j, F j ≤ 1) (ha : a < 2048) (hb : ∀ r i, i + (r + 1) = 12 → r < 11 → F i = a / 2 ^ r % 2)
    (h : ∃ m, wY_measure_61 post (nI l) (lN n) m 0 yt ys ye yp yr yf yg yl yu (nI (wn_P F 12).1) (nI (wn_P F 12).1) (nI (wn_P F 12).2.1) (nI (wn_P F 12).2.2) (nI (wn_C F 12)) on ma va se re ms ww wh wt bn bh bx) :
    ∀ r i, i + r = 12 → r ≤ 11 → wY_measure_29 post (nI a) (nI l) (lN n) (r + 1) (wn_dn r) yt ys ye yp yr yf yg yl yu yi (nI (wn_P F i).1) (nI (wn_P F i).2.1) (nI (wn_P F i).2.2) (nI (wn_C F i)) on ma va se re ms ww wh wt bn bh bx := by
  intro r
  induction r with
  | zero =>
    intro i hi _
    have e : i = 12 := by omega
    subst e
    exact br_t wn_neg h
  | succ r ih =>
    intro i hi hr
    refine br_f (nI_pos (by omega)) ?_
    refine wn_ystep (i := i) hF ?_ (nm_r (wn_dn_s r) (ih (i + 1) (by omega) (by omega)))
    rw [show wn_dn (r + 1) = nI r from rfl, wn_sh (by omega) (by omega), hb r i hi (by omega)]
end
section
variable {a l n c : Nat}
theorem wn_b_pre {i : Nat} (hi : i < 19 + 8 * l) : wn_b a l n c i = wn_b a l n 0 i := by
  unfold wn_b
  by_cases h : i < 19
  · rw [if_pos h, if_pos h]
  · rw [if_neg h, if_neg h, if_pos hi, if_pos hi]
theorem wn_b_0 (ha : a < 2048) (hl : l ≤ 8) : wn_b a l n c 0 = 0 := by
  unfold wn_b
  rw [if_pos (by decide)]
  show (a * 128 + l) / 262144 % 2 = 0
  omega
theorem wn_b_id (hl : l ≤ 8) : ∀ r i, i + (r + 1) = 12 → r < 11 → wn_b a l n c i = a / 2 ^ r % 2 := by
  intro r i hi hr
  unfold wn_b
  have e : 18 - i = 7 + r := by omega
  have e2 : (a * 128 + l) / 2 ^ 7 = a := by omega
  rw [if_pos (by omega), e, Nat.pow_add, ← Nat.div_div_eq_div_mul, e2]
theorem wn_b_z (hl : l ≤ 8) : ∀ i, 12 ≤ i → i < 15 → wn_b a l n c i = 0 := by
  intro i h1 h2
  unfold wn_b
  rw [if_pos (by omega)]
  obtain rfl | rfl | rfl : i = 12 ∨ i = 13 ∨ i = 14 := by omega
  · show (a * 128 + l) / 64 % 2 = 0
    omega
  · show (a * 128 + l) / 32 % 2 = 0
    omega
  · show (a * 128 + l) / 16 % 2 = 0
    omega
theorem wn_b_l (hl : l ≤ 8) : ∀ r i, i + (r + 1) = 19 → r < 4 → wn_b a l n c i = l / 2 ^ r % 2 := by
  intro r i hi hr
  unfold wn_b
  have e : 18 - i = r := by omega
  rw [if_pos (by omega), e]
  obtain rfl | rfl | rfl | rfl : r = 0 ∨ r = 1 ∨ r = 2 ∨ r = 3 := by omega
  · show (a * 128 + l) / 1 % 2 = l / 1 % 2
    omega
  · show (a * 128 + l) / 2 % 2 = l / 2 % 2
    omega
  · show (a * 128 + l) / 4 % 2 = l / 4 % 2
    omega
  · show (a * 128 + l) / 8 % 2 = l / 8 % 2
    omega
theorem wn_b_d : ∀ r i, i + (r + 1) = 19 + 8 * l → r < 8 * l → wn_b a l n c i = n / 2 ^ r % 2 := by
  intro r i hi hr
  unfold wn_b
  have e : 18 + 8 * l - i = r := by omega
  rw [if_neg (by omega), if_pos (by omega), e]
theorem wn_b_c : ∀ r i, i + (r + 1) = 34 + 8 * l → r < 15 → wn_b a l n c i = c / 2 ^ r % 2 := by
  intro r i hi hr
  unfold wn_b
  have e : 33 + 8 * l - i = r := by omega
  rw [if_neg (by omega), if_neg (by omega), e]
theorem wn_8l : ∀ l, l < 9 → 8 * nI l - 1 = wn_dn (8 * l) := by decide +kernel
end
section
variable {yt ys ye yp yr yf yg yl yu yi yo ya yn yk : Int32} {on ma va se re ms ww wh bn bh : Nat → Int32} {wt bx : Nat → Int64}
theorem wn_meas {a l n N : Nat} {F : Nat → Nat} {post : SY → Prop} (ha : a < 2048) (hl : l ≤ 8) (hn : n < 2 ^ 64) (hN : N = wn_C (wn_b a l n 0) (19 + 8 * l)) (hFe : F = wn_b a l n N)
    (h : post (yt, ys, ye, yp, yr, yf, yg, yl, yu, nI (wn_P F 12).1, nI (wn_P F (34 + 8 * l)).1, nI (wn_P F (34 + 8 * l)).2.1, nI (wn_P F (34 + 8 * l)).2.2, nI N, on, ma, va, se, re, ms, ww, wh, wt, bn, bh, bx)) : wpY_measure post (yt, ys, ye, yp, yr, yf, yg, yl, yu, yi, yo, ya, yn, yk, on, ma, va, se, re, ms, ww, wh, wt, bn, bh, bx) (nI a) (nI l) (lN n) := by
  have hF : ∀ j, F j ≤ 1 := fun j => by rw [hFe]; exact wn_b_le _ _ _ _ _
  have hC : wn_C F (19 + 8 * l) = N := (wn_C_cg _ (fun i hi => by rw [hFe]; exact wn_b_pre hi)).trans hN.symm
  have hN' : N < 32768 := by rw [hN]; exact wn_C_lt _ _
  have k5 : ∃ m, wY_measure_142 post (nI N) m 14 yt ys ye yp yr yf yg yl yu (nI (wn_P F 12).1) (nI (wn_P F (19 + 8 * l)).1) (nI (wn_P F (19 + 8 * l)).2.1) (nI (wn_P F (19 + 8 * l)).2.2) (nI N) on ma va se re ms ww wh wt bn bh bx :=
    ⟨16, wn_m142 (M := 34 + 8 * l) hF hN' (fun r i hi hr => by rw [hFe]; exact wn_b_c r i hi hr) h 15 (19 + 8 * l) (by omega) (by omega)⟩
  have k4 : ∃ m, wY_measure_110 post (lN n) m (8 * nI l - 1) yt ys ye yp yr yf yg yl yu (nI (wn_P F 12).1) (nI (wn_P F 19).1) (nI (wn_P F 19).2.1) (nI (wn_P F 19).2.2) (nI (wn_C F 19)) on ma va se re ms ww wh wt bn bh bx := by
    rw [wn_8l l (by omega)]
    exact ⟨8 * l + 1, wn_m110 hF hn hl hC (fun r i hi hr => by rw [hFe]; exact wn_b_d r i hi hr) k5 (8 * l) 19 (by omega) (by omega)⟩
  have k3 : ∃ m, wY_measure_81 post (nI l) (lN n) m 3 yt ys ye yp yr yf yg yl yu (nI (wn_P F 12).1) (nI (wn_P F 15).1) (nI (wn_P F 15).2.1) (nI (wn_P F 15).2.2) (nI (wn_C F 15)) on ma va se re ms ww wh wt bn bh bx :=
    ⟨5, wn_m81 hF hl (fun r i hi hr => by rw [hFe]; exact wn_b_l hl r i hi hr) k4 4 15 (by omega) (by omega)⟩
  have k2 : ∃ m, wY_measure_61 post (nI l) (lN n) m 0 yt ys ye yp yr yf yg yl yu (nI (wn_P F 12).1) (nI (wn_P F 12).1) (nI (wn_P F 12).2.1) (nI (wn_P F 12).2.2) (nI (wn_C F 12)) on ma va se re ms ww wh wt bn bh bx :=
    ⟨4, wn_m61 hF (fun i h1 h2 => by rw [hFe]; exact wn_b_z hl i h1 h2) k3 3 0 12 (by omega) (by omega)⟩
  have k1 := wn_m29 (yi := yi) hF ha (fun r i hi hr => by rw [hFe]; exact wn_b_id hl r i hi hr) k2 11 1 (by omega) (by omega)
  have h0 : F 0 = 0 := by rw [hFe]; exact wn_b_0 ha hl
  have hP1 : wn_P F 1 = (1, 0, 1) := by
    show wn_put (F 0) (0, 0, 0) = _
    rw [h0]
    rfl
  have hC1 : wn_C F 1 = 0 := by
    show wn_cs (F 0) 0 = _
    rw [h0]
    rfl
  rw [hP1, hC1] at k1
  unfold wpY_measure wpY_putChecked wpY_put
  refine br_f (by decide) ?_
  unfold wY_put_33
  refine br_f (by decide) ?_
  unfold wY_put_52
  refine nm_r (show (0 : Int32) + 1 = nI 1 by decide) (nm_r (e' := 0) (by decide) (nm_r (e' := nI 0) (by decide) (br_f (by decide) ?_)))
  exact ⟨12, k1⟩
end
