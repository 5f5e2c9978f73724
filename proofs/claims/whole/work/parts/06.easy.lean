/-! the questions, filter, restart, disturb -/
theorem i_vc_sendErrors {k : Nat} {u : SX} {v : SY} (I : i_Rel k u v) (hk : k + 5 ≤ 2560) (v1 : Int32) : wpX_sendErrors (fun r => wpY_sendErrors (fun r' => r' = r ∧ i_Rel (k + 5) u v) v v1) u v1 := by
  have J := i_up I
  obtain ⟨T, hT, D, H, xs, xw, xq, xi, xg, xb, xc, yr, yf, yg, yl, yu, yi, yo, ya, yn, yk, I, L, C, B, S, E, ad, bd, bf, mi, fm, fv, fo, on, rfl, rfl, G, P⟩ := I
  unfold wpX_sendErrors wpY_sendErrors
  rcases wn_ix v1 (n := 4) (by decide) with h | ⟨j, hj, rfl⟩
  · exact wn_nodeXb h (br_t rfl (wn_nodeYb h (br_f (by decide) ⟨rfl, J⟩)))
  · have vj : vp_in (nI j) 4 := vp_in_nI hj (by decide)
    exact wn_nodeXg hj (br_f (by decide) ⟨vj, wn_nodeYg hj (br_t rfl ⟨vj, rfl, J⟩)⟩)
theorem i_vc_receiveErrors {k : Nat} {u : SX} {v : SY} (I : i_Rel k u v) (hk : k + 5 ≤ 2560) (v1 : Int32) : wpX_receiveErrors (fun r => wpY_receiveErrors (fun r' => r' = r ∧ i_Rel (k + 5) u v) v v1) u v1 := by
  have J := i_up I
  obtain ⟨T, hT, D, H, xs, xw, xq, xi, xg, xb, xc, yr, yf, yg, yl, yu, yi, yo, ya, yn, yk, I, L, C, B, S, E, ad, bd, bf, mi, fm, fv, fo, on, rfl, rfl, G, P⟩ := I
  unfold wpX_receiveErrors wpY_receiveErrors
  rcases wn_ix v1 (n := 4) (by decide) with h | ⟨j, hj, rfl⟩
  · exact wn_nodeXb h (br_t rfl (wn_nodeYb h (br_f (by decide) ⟨rfl, J⟩)))
  · have vj : vp_in (nI j) 4 := vp_in_nI hj (by decide)
    exact wn_nodeXg hj (br_f (by decide) ⟨vj, wn_nodeYg hj (br_t rfl ⟨vj, rfl, J⟩)⟩)
theorem i_vc_waiting {k : Nat} {u : SX} {v : SY} (I : i_Rel k u v) (hk : k + 5 ≤ 2560) (v1 : Int32) : wpX_waiting (fun r => wpY_waiting (fun r' => r' = r ∧ i_Rel (k + 5) u v) v v1) u v1 := by
  have J := i_up I
  obtain ⟨T, hT, D, H, xs, xw, xq, xi, xg, xb, xc, yr, yf, yg, yl, yu, yi, yo, ya, yn, yk, I, L, C, B, S, E, ad, bd, bf, mi, fm, fv, fo, on, rfl, rfl, G, P⟩ := I
  unfold wpX_waiting wpY_waiting
  rcases wn_ix v1 (n := 4) (by decide) with h | ⟨j, hj, rfl⟩
  · exact wn_nodeXb h (br_t rfl (wn_nodeYb h (br_f (by decide) ⟨rfl, J⟩)))
  · have vj : vp_in (nI j) 4 := vp_in_nI hj (by decide)
    exact wn_nodeXg hj (br_f (by decide) ⟨vj, wn_nodeYg hj (br_t rfl ⟨vj, rfl, J⟩)⟩)
theorem i_vc_received {k : Nat} {u : SX} {v : SY} (I : i_Rel k u v) (hk : k + 5 ≤ 2560) (v1 : Int32) : wpX_received (fun r => wpY_received (fun r' => r' = r ∧ i_Rel (k + 5) u v) v v1) u v1 := by
  have J := i_up I
  obtain ⟨T, hT, D, H, xs, xw, xq, xi, xg, xb, xc, yr, yf, yg, yl, yu, yi, yo, ya, yn, yk, I, L, C, B, S, E, ad, bd, bf, mi, fm, fv, fo, on, rfl, rfl, G, P⟩ := I
  unfold wpX_received wpY_received
  rcases wn_ix v1 (n := 4) (by decide) with h | ⟨j, hj, rfl⟩
  · exact wn_nodeXb h (br_t rfl (wn_nodeYb h (br_f (by decide) ⟨rfl, J⟩)))
  · have vj : vp_in (nI j) 4 := vp_in_nI hj (by decide)
    exact wn_nodeXg hj (br_f (by decide) ⟨vj, wn_nodeYg hj (br_t rfl ⟨vj, rfl, J⟩)⟩)
theorem i_vc_missed {k : Nat} {u : SX} {v : SY} (I : i_Rel k u v) (hk : k + 5 ≤ 2560) (v1 : Int32) : wpX_missed (fun r => wpY_missed (fun r' => r' = r ∧ i_Rel (k + 5) u v) v v1) u v1 := by
  have J := i_up I
  obtain ⟨T, hT, D, H, xs, xw, xq, xi, xg, xb, xc, yr, yf, yg, yl, yu, yi, yo, ya, yn, yk, I, L, C, B, S, E, ad, bd, bf, mi, fm, fv, fo, on, rfl, rfl, G, P⟩ := I
  unfold wpX_missed wpY_missed
  rcases wn_ix v1 (n := 4) (by decide) with h | ⟨j, hj, rfl⟩
  · exact wn_nodeXb h (br_t rfl (wn_nodeYb h (br_f (by decide) ⟨rfl, J⟩)))
  · have vj : vp_in (nI j) 4 := vp_in_nI hj (by decide)
    exact wn_nodeXg hj (br_f (by decide) ⟨vj, wn_nodeYg hj (br_t rfl ⟨vj, rfl, J⟩)⟩)
theorem i_vc_isOn {k : Nat} {u : SX} {v : SY} (I : i_Rel k u v) (hk : k + 5 ≤ 2560) (v1 : Int32) : wpX_isOn (fun r => wpY_isOn (fun r' => r' = r ∧ i_Rel (k + 5) u v) v v1) u v1 := by
  have J := i_up I
  obtain ⟨T, hT, D, H, xs, xw, xq, xi, xg, xb, xc, yr, yf, yg, yl, yu, yi, yo, ya, yn, yk, I, L, C, B, S, E, ad, bd, bf, mi, fm, fv, fo, on, rfl, rfl, G, P⟩ := I
  obtain ⟨⟨g1, g2, g3⟩, hI, hL, hC, hB, hS, hE, hO, hd⟩ := G
  unfold wpX_isOn wpY_isOn
  rcases wn_ix v1 (n := 4) (by decide) with h | ⟨j, hj, rfl⟩
  · exact wn_nodeXb h (br_t rfl (wn_nodeYb h (br_f (by decide) ⟨rfl, J⟩)))
  · have vj : vp_in (nI j) 4 := vp_in_nI hj (by decide)
    have ec : (nI j).toNatClampNeg = j := nI_clamp (by omega)
    rcases hO j hj with ⟨h1, h2⟩ | ⟨h1, h2⟩
    · exact wn_nodeXg hj (br_f (by decide) ⟨vj, br_t (by rw [ec]; exact h1) (wn_nodeYg hj (br_t rfl ⟨vj, br_f (by rw [ec, h2]; decide) ⟨rfl, J⟩⟩))⟩)
    · exact wn_nodeXg hj (br_f (by decide) ⟨vj, br_f (by rw [ec, h1]; decide) (wn_nodeYg hj (br_t rfl ⟨vj, br_t (by rw [ec]; exact h2) ⟨rfl, J⟩⟩))⟩)
theorem i_vc_time {k : Nat} {u : SX} {v : SY} (I : i_Rel k u v) (hk : k + 5 ≤ 2560) : wpX_time (fun r => wpY_time (fun r' => r' = r ∧ i_Rel (k + 5) u v) v) u := by
  have J := i_up I
  obtain ⟨T, hT, D, H, xs, xw, xq, xi, xg, xb, xc, yr, yf, yg, yl, yu, yi, yo, ya, yn, yk, I, L, C, B, S, E, ad, bd, bf, mi, fm, fv, fo, on, rfl, rfl, G, P⟩ := I
  exact ⟨rfl, J⟩
theorem i_vc_wire {k : Nat} {u : SX} {v : SY} (I : i_Rel k u v) (hk : k + 5 ≤ 2560) : wpX_wire (fun r => wpY_wire (fun r' => r' = r ∧ i_Rel (k + 5) u v) v) u := by
  have J := i_up I
  obtain ⟨T, hT, D, H, xs, xw, xq, xi, xg, xb, xc, yr, yf, yg, yl, yu, yi, yo, ya, yn, yk, I, L, C, B, S, E, ad, bd, bf, mi, fm, fv, fo, on, rfl, rfl, G, P⟩ := I
  exact ⟨rfl, J⟩
theorem i_vc_sent {k : Nat} {u : SX} {v : SY} (I : i_Rel k u v) (hk : k + 5 ≤ 2560) : wpX_sent (fun r => wpY_sent (fun r' => r' = r ∧ i_Rel (k + 5) u v) v) u := by
  have J := i_up I
  obtain ⟨T, hT, D, H, xs, xw, xq, xi, xg, xb, xc, yr, yf, yg, yl, yu, yi, yo, ya, yn, yk, I, L, C, B, S, E, ad, bd, bf, mi, fm, fv, fo, on, rfl, rfl, G, P⟩ := I
  exact ⟨rfl, J⟩
theorem wn_not1 {x : Int32} (h : x = 0 ∨ x = 2 ∨ x = 3) : ¬ x = 1 := by
  rcases h with h | h | h <;> rw [h] <;> decide
theorem i_vc_underWay {k : Nat} {u : SX} {v : SY} (I : i_Rel k u v) (hk : k + 5 ≤ 2560) : wpX_underWay (fun r => wpY_underWay (fun r' => r' = r ∧ i_Rel (k + 5) u v) v) u := by
  have J := i_up I
  obtain ⟨T, hT, D, H, xs, xw, xq, xi, xg, xb, xc, yr, yf, yg, yl, yu, yi, yo, ya, yn, yk, I, L, C, B, S, E, ad, bd, bf, mi, fm, fv, fo, on, rfl, rfl, G, P⟩ := I
  obtain ⟨⟨g1, g2, g3⟩, hI, hL, hC, hB, hS, hE, hO, hd⟩ := G
  unfold wpX_underWay wpY_underWay
  rcases P with h | ⟨h, p, g, b, q, hp, ht, e1, e2, -⟩ | ⟨h, -⟩
  · have h1 : ¬ xw = 1 := wn_not1 (Or.inl h)
    exact br_f h1 (br_f h1 ⟨rfl, J⟩)
  · refine br_t h (br_t h ⟨?_, by decide, ?_, J⟩)
    · rw [e2]
      exact vp_in_nI hp (by decide)
    · rw [e1, e2]
      show nI (16 * I (nI p).toNatClampNeg + L (nI p).toNatClampNeg) / 16 = nI (I p)
      rw [nI_clamp (by omega)]
      exact (wn_h16 (hI p) (hL p)).1
  · have h1 : ¬ xw = 1 := wn_not1 (Or.inr h)
    exact br_f h1 (br_f h1 ⟨rfl, J⟩)
theorem i_vc_filter {k : Nat} {u : SX} {v : SY} (I : i_Rel k u v) (hk : k + 5 ≤ 2560) (v1 : Int32) (v2 : Int32) (v3 : Int32) : wpX_filter (fun r u' => wpY_filter (fun r' v' => r' = r ∧ i_Rel (k + 5) u' v') v v1 v2 v3) u v1 v2 v3 := by
  have J := i_up I
  obtain ⟨T, hT, D, H, xs, xw, xq, xi, xg, xb, xc, yr, yf, yg, yl, yu, yi, yo, ya, yn, yk, I, L, C, B, S, E, ad, bd, bf, mi, fm, fv, fo, on, rfl, rfl, G, P⟩ := I
  unfold wpX_filter wpY_filter
  rcases wn_ix v1 (n := 4) (by decide) with h | ⟨j, hj, rfl⟩
  · exact wn_nodeXb h (br_t rfl (wn_nodeYb h (br_f (by decide) ⟨rfl, J⟩)))
  refine wn_nodeXg hj (br_f (by decide) ?_)
  rcases wn_ix v2 (n := 2048) (by decide) with h | ⟨a, ha, rfl⟩
  · exact wn_idXb h (br_t rfl (wn_nodeYg hj (br_t rfl (wn_idYb h (br_f (by decide) ⟨rfl, J⟩)))))
  refine wn_idXg ha (br_f (by decide) ?_)
  rcases wn_ix v3 (n := 2048) (by decide) with h | ⟨b, hb, rfl⟩
  · exact wn_idXb h (br_t rfl (wn_nodeYg hj (br_t rfl (wn_idYg ha (br_t rfl (wn_idYb h (br_f (by decide) ⟨rfl, J⟩)))))))
  have vj : vp_in (nI j) 4 := vp_in_nI hj (by decide)
  refine wn_idXg hb (br_f (by decide) ⟨vj, nm_e ⟨vj, nm_e ?_⟩⟩)
  exact wn_nodeYg hj (br_t rfl (wn_idYg ha (br_t rfl (wn_idYg hb (br_t rfl ⟨vj, nm_e ⟨vj, nm_e ⟨rfl, wn_mk5 hT G P⟩⟩⟩)))))
theorem i_vc_disturb {k : Nat} {u : SX} {v : SY} (I : i_Rel k u v) (hk : k + 5 ≤ 2560) (v1 : Int32) : wpX_disturb (fun r u' => wpY_disturb (fun r' v' => r' = r ∧ i_Rel (k + 5) u' v') v v1) u v1 := by
  have J := i_up I
  obtain ⟨T, hT, D, H, xs, xw, xq, xi, xg, xb, xc, yr, yf, yg, yl, yu, yi, yo, ya, yn, yk, I, L, C, B, S, E, ad, bd, bf, mi, fm, fv, fo, on, rfl, rfl, G, P⟩ := I
  obtain ⟨⟨g1, g2, g3⟩, hI, hL, hC, hB, hS, hE, hO, hd⟩ := G
  unfold wpX_disturb wpY_disturb
  by_cases h1 : v1 < 1
  · exact br_t h1 (br_t h1 ⟨rfl, J⟩)
  refine br_f h1 ?_
  by_cases h2 : v1 ≤ 1000
  · obtain ⟨j, hj, rfl⟩ := nI_of (x := v1) (fun z => h1 (Int32.lt_trans z (by decide)))
    have j1 : ¬ j < 1 := fun z => h1 (nI_lt (b := 1) z (by decide))
    have j2 : j ≤ 1000 := Nat.not_lt.mp (fun z => nI_ge (a := 1000) z hj h2)
    exact br_t h2 (br_f h1 (br_t h2 (nm_r (nI_add T j) ⟨rfl, wn_mk5 hT ⟨⟨j2, by omega, fun _ => rfl⟩, hI, hL, hC, hB, hS, hE, hO, hd⟩ P⟩)))
  · exact br_f h2 (br_f h1 (br_f h2 ⟨rfl, J⟩))
theorem wn_uset {f g : Nat → Nat} {j a : Nat} (hj : j < 100) : upd (fun z => nI (f z)) (nI j).toNatClampNeg (nI a) = fun z => nI (wn_set f j a z) := by
  rw [nI_clamp (by omega)]
  exact wn_upd f j a
theorem wn_set_le {f : Nat → Nat} {j a b : Nat} (h : ∀ m, f m ≤ b) (ha : a ≤ b) : ∀ m, wn_set f j a m ≤ b := by
  intro m
  unfold wn_set
  split
  · exact ha
  · exact h m
theorem wn_set_lt {f : Nat → Nat} {j a b : Nat} (h : ∀ m, f m < b) (ha : a < b) : ∀ m, wn_set f j a m < b := by
  intro m
  unfold wn_set
  split
  · exact ha
  · exact h m
theorem i_vc_restart {k : Nat} {u : SX} {v : SY} (I : i_Rel k u v) (hk : k + 5 ≤ 2560) (v1 : Int32) : wpX_restart (fun r u' => wpY_restart (fun r' v' => r' = r ∧ i_Rel (k + 5) u' v') v v1) u v1 := by
  have J := i_up I
  obtain ⟨T, hT, D, H, xs, xw, xq, xi, xg, xb, xc, yr, yf, yg, yl, yu, yi, yo, ya, yn, yk, I, L, C, B, S, E, ad, bd, bf, mi, fm, fv, fo, on, rfl, rfl, G, P⟩ := I
  unfold wpX_restart wpY_restart
  rcases wn_ix v1 (n := 4) (by decide) with h | ⟨j, hj, rfl⟩
  · exact wn_nodeXb h (br_t rfl (wn_nodeYb h (br_f (by decide) ⟨rfl, J⟩)))
  refine wn_nodeXg hj (br_f (by decide) ?_)
  by_cases h1 : xw = 1
  · exact br_t h1 (wn_nodeYg hj (br_t rfl (br_t h1 ⟨rfl, J⟩)))
  refine br_f h1 ?_
  by_cases h2 : xw = 2
  · exact br_t h2 (wn_nodeYg hj (br_t rfl (br_f h1 (br_t h2 ⟨rfl, J⟩))))
  refine br_f h2 ?_
  obtain ⟨⟨g1, g2, g3⟩, hI, hL, hC, hB, hS, hE, hO, hd⟩ := G
  have vj : vp_in (nI j) 4 := vp_in_nI hj (by decide)
  have ec : (nI j).toNatClampNeg = j := nI_clamp (by omega)
  have hP : ∀ I' C', wn_ph I' C' xw xq xi xg xb xc yr yf yg yl yu := by
    rcases P with h | ⟨h, -⟩ | h
    · exact fun _ _ => Or.inl h
    · exact absurd h h1
    · exact fun _ _ => Or.inr (Or.inr h)
  have hO' : ∀ m, m < 4 → (upd fo j 0 m = 0 ∧ upd on j 1 m = 1) ∨ (upd fo j 0 m = 1 ∧ upd on j 1 m = 0) := by
    intro m hm
    by_cases e : m = j
    · subst e
      exact Or.inl ⟨pk_us, pk_us⟩
    · rw [pk_un e, pk_un e]
      exact hO m hm
  have fin : i_Rel (k + 5) (nI T, xs, nI D, xw, xq, xi, xg, xb, xc, (fun z => nI (I z)), (fun z => nI (L z)), ad, (fun z => nI (C z)), bf, bd, (fun z => nI (B z)), mi, fm, fv, upd fo j 0, (fun z => nI ((wn_set S j 0) z)), (fun z => nI ((wn_set E j 0) z))) (nI T, xs, nI H, xw, yr, yf, yg, yl, yu, yi, yo, ya, yn, yk, upd on j 1, fm, fv, (fun z => nI ((wn_set S j 0) z)), (fun z => nI ((wn_set E j 0) z)), mi, (fun z => nI (C z)), (fun z => nI (16 * I z + L z)), ad, (fun z => nI (B z)), bf, bd) :=
    wn_mk5 hT ⟨⟨g1, g2, g3⟩, hI, hL, hC, hB, wn_set_le hS (by omega), wn_set_le hE (by omega), hO', hd⟩ (hP _ _)
  have ef : upd fo (nI j).toNatClampNeg (vp_nar .boolean 0) = upd fo j 0 := by rw [ec, wn_nb0]
  have eo : upd on (nI j).toNatClampNeg (vp_nar .boolean 1) = upd on j 1 := by rw [ec, wn_nb1]
  have es' : upd (fun z => nI (S z)) (nI j).toNatClampNeg 0 = fun z => nI (wn_set S j 0 z) := wn_uset (g := S) (a := 0) (by omega)
  have er' : upd (fun z => nI (E z)) (nI j).toNatClampNeg 0 = fun z => nI (wn_set E j 0 z) := wn_uset (g := S) (a := 0) (by omega)
  rcases hO j hj with ⟨q1, q2⟩ | ⟨q1, q2⟩
  · refine ⟨vj, br_t (by rw [ec]; exact q1) ⟨vj, nm_r ef ⟨vj, nm_r es' ⟨vj, nm_r er' ?_⟩⟩⟩⟩
    refine wn_nodeYg hj (br_t rfl (br_f h1 (br_f h2 ⟨vj, nm_r (show on (nI j).toNatClampNeg = 1 by rw [ec]; exact q2) ⟨vj, nm_r eo ⟨vj, nm_r es' ⟨vj, nm_r er' (br_f (by decide) ⟨rfl, fin⟩)⟩⟩⟩⟩)))
  · refine ⟨vj, br_f (by rw [ec, q1]; decide) ⟨vj, nm_r ef ⟨vj, nm_r es' ⟨vj, nm_r er' ?_⟩⟩⟩⟩
    refine wn_nodeYg hj (br_t rfl (br_f h1 (br_f h2 ⟨vj, nm_r (show on (nI j).toNatClampNeg = 0 by rw [ec]; exact q2) ⟨vj, nm_r eo ⟨vj, nm_r es' ⟨vj, nm_r er' (br_t rfl ⟨rfl, fin⟩)⟩⟩⟩⟩)))
theorem i_vc_frameAt {k : Nat} {u : SX} {v : SY} (I : i_Rel k u v) (hk : k + 5 ≤ 2560) (v1 : Int32) (v2 : Int32) : wpX_frameAt (fun r => wpY_frameAt (fun r' => r' = r ∧ i_Rel (k + 5) u v) v v1 v2) u v1 v2 := by
  have J := i_up I
  obtain ⟨T, hT, D, H, xs, xw, xq, xi, xg, xb, xc, yr, yf, yg, yl, yu, yi, yo, ya, yn, yk, I, L, C, B, S, E, ad, bd, bf, mi, fm, fv, fo, on, rfl, rfl, G, P⟩ := I
  obtain ⟨⟨g1, g2, g3⟩, hI, hL, hC, hB, hS, hE, hO, hd⟩ := G
  unfold wpX_frameAt wpY_frameAt
  rcases wn_ix v1 (n := 4) (by decide) with h | ⟨j, hj, rfl⟩
  · exact wn_nodeXb h (br_t rfl (wn_nodeYb h (br_f (by decide) ⟨rfl, J⟩)))
  refine wn_nodeXg hj (br_f (by decide) ?_)
  have vj : vp_in (nI j) 4 := vp_in_nI hj (by decide)
  unfold wpX_isInInbox
  by_cases h0 : v2 < 0
  · exact br_t h0 (br_t rfl (wn_nodeYg hj (br_t rfl (br_t h0 ⟨rfl, J⟩))))
  refine br_f h0 ⟨vj, ?_⟩
  obtain ⟨i, hi, rfl⟩ := nI_of h0
  have hb := hB j
  have eb : nI (B (nI j).toNatClampNeg) = nI (B j) := wn_at B (by omega)
  by_cases hlt : i < B j
  · have e1 : nI j * 6 + nI i = nI (6 * j + i) := by
      show nI j * nI 6 + nI i = _
      rw [pk_mul, nI_add, Nat.mul_comm]
    have e2 : 6 * nI j + nI i = nI (6 * j + i) := by
      show nI 6 * nI j + nI i = _
      rw [pk_mul, nI_add]
    refine br_f (show ¬ nI (B (nI j).toNatClampNeg) ≤ nI i by rw [eb]; exact nI_ge hlt (by omega)) (br_f (by decide) ⟨pk_in (6 * j + i) 24 (by omega) e1, ?_⟩)
    refine wn_nodeYg hj (br_t rfl (br_f h0 ⟨vj, br_t (show nI i < nI (B (nI j).toNatClampNeg) by rw [eb]; exact nI_lt hlt (by omega)) ⟨pk_in (6 * j + i) 24 (by omega) e2, ?_, J⟩⟩))
    rw [e1, e2]
  · refine br_t (show nI (B (nI j).toNatClampNeg) ≤ nI i by rw [eb]; exact nI_le (by omega) hi) (br_t rfl ?_)
    exact wn_nodeYg hj (br_t rfl (br_f h0 ⟨vj, br_f (show ¬ nI i < nI (B (nI j).toNatClampNeg) by rw [eb]; exact nI_nlt (by omega) hi) ⟨rfl, J⟩⟩))
theorem i_vc_dataAt {k : Nat} {u : SX} {v : SY} (I : i_Rel k u v) (hk : k + 5 ≤ 2560) (v1 : Int32) (v2 : Int32) : wpX_dataAt (fun r => wpY_dataAt (fun r' => r' = r ∧ i_Rel (k + 5) u v) v v1 v2) u v1 v2 := by
  have J := i_up I
  obtain ⟨T, hT, D, H, xs, xw, xq, xi, xg, xb, xc, yr, yf, yg, yl, yu, yi, yo, ya, yn, yk, I, L, C, B, S, E, ad, bd, bf, mi, fm, fv, fo, on, rfl, rfl, G, P⟩ := I
  obtain ⟨⟨g1, g2, g3⟩, hI, hL, hC, hB, hS, hE, hO, hd⟩ := G
  unfold wpX_dataAt wpY_dataAt
  rcases wn_ix v1 (n := 4) (by decide) with h | ⟨j, hj, rfl⟩
  · exact wn_nodeXb h (br_t rfl (wn_nodeYb h (br_f (by decide) ⟨rfl, J⟩)))
  refine wn_nodeXg hj (br_f (by decide) ?_)
  have vj : vp_in (nI j) 4 := vp_in_nI hj (by decide)
  unfold wpX_isInInbox
  by_cases h0 : v2 < 0
  · exact br_t h0 (br_t rfl (wn_nodeYg hj (br_t rfl (br_t h0 ⟨rfl, J⟩))))
  refine br_f h0 ⟨vj, ?_⟩
  obtain ⟨i, hi, rfl⟩ := nI_of h0
  have hb := hB j
  have eb : nI (B (nI j).toNatClampNeg) = nI (B j) := wn_at B (by omega)
  by_cases hlt : i < B j
  · have e1 : nI j * 6 + nI i = nI (6 * j + i) := by
      show nI j * nI 6 + nI i = _
      rw [pk_mul, nI_add, Nat.mul_comm]
    have e2 : 6 * nI j + nI i = nI (6 * j + i) := by
      show nI 6 * nI j + nI i = _
      rw [pk_mul, nI_add]
    refine br_f (show ¬ nI (B (nI j).toNatClampNeg) ≤ nI i by rw [eb]; exact nI_ge hlt (by omega)) (br_f (by decide) ⟨pk_in (6 * j + i) 24 (by omega) e1, ?_⟩)
    refine wn_nodeYg hj (br_t rfl (br_f h0 ⟨vj, br_t (show nI i < nI (B (nI j).toNatClampNeg) by rw [eb]; exact nI_lt hlt (by omega)) ⟨pk_in (6 * j + i) 24 (by omega) e2, ?_, J⟩⟩))
    rw [e1, e2]
  · refine br_t (show nI (B (nI j).toNatClampNeg) ≤ nI i by rw [eb]; exact nI_le (by omega) hi) (br_t rfl ?_)
    exact wn_nodeYg hj (br_t rfl (br_f h0 ⟨vj, br_f (show ¬ nI i < nI (B (nI j).toNatClampNeg) by rw [eb]; exact nI_nlt (by omega) hi) ⟨rfl, J⟩⟩))
