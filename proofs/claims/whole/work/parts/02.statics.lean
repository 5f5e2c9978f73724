/-! X's own reckoning of a frame's bits -/
section
variable {a l n : Nat} {post : Int32 → Prop}
theorem wn_plain {c i : Nat} (ha : a < 2048) (hl : l ≤ 8) (hn : n < 2 ^ 64) (hc : c < 32768) (hi : i < 34 + 8 * l) (h : post (nI (wn_b a l n c i))) : wpX_plainBit post (nI a) (nI l) (lN n) (nI c) (nI i) := by
  unfold wpX_plainBit
  refine nm_r (wn_19 l) ?_
  unfold wn_b at h
  by_cases h1 : i < 19
  · rw [if_pos h1] at h
    refine br_f (show ¬ (19 : Int32) ≤ nI i from nI_ge (b := 19) h1 (by decide)) (nm_r (wn_head ha hl) ?_)
    rw [show (18 : Int32) - nI i = nI (18 - i) from pk_sub (a := 18) (by omega), wn_sh (by omega) (by omega)]
    exact h
  · rw [if_neg h1] at h
    refine br_t (show (19 : Int32) ≤ nI i from nI_le (a := 19) (by omega) (by omega)) ?_
    by_cases h2 : i < 19 + 8 * l
    · rw [if_pos h2] at h
      refine br_f (nI_ge h2 (by omega)) ?_
      have e : nI (19 + 8 * l) - 1 - nI i = nI (18 + 8 * l - i) := by
        rw [show nI (19 + 8 * l) - 1 = nI (18 + 8 * l) from pk_sub (b := 1) (by omega) |>.trans (congrArg nI (by omega)), pk_sub (by omega)]
      rw [e, wn_dsh hn (by omega)]
      exact h
    · rw [if_neg h2] at h
      refine br_t (nI_le (by omega) (by omega)) ?_
      have e : nI (19 + 8 * l) + 15 - 1 - nI i = nI (33 + 8 * l - i) := by
        rw [show nI (19 + 8 * l) + 15 = nI (34 + 8 * l) from (nI_add _ 15).trans (congrArg nI (by omega)), show nI (34 + 8 * l) - 1 = nI (33 + 8 * l) from (pk_sub (b := 1) (by omega)).trans (congrArg nI (by omega)), pk_sub (by omega)]
      rw [e, wn_sh (by omega) (by omega)]
      exact h
theorem wn_chk (ha : a < 2048) (hl : l ≤ 8) (hn : n < 2 ^ 64) (h : post (nI (wn_C (wn_b a l n 0) (19 + 8 * l)))) : ∀ d i, i + d = 19 + 8 * l →
    wX_checkNumber_15 post (nI a) (nI l) (lN n) (nI (19 + 8 * l)) (d + 1) (nI (wn_C (wn_b a l n 0) i)) (nI i) := by
  intro d
  induction d with
  | zero =>
    intro i hi
    have e : i = 19 + 8 * l := by omega
    subst e
    exact br_t (nI_le (Nat.le_refl _) (by omega)) h
  | succ d ih =>
    intro i hi
    have hc := wn_C_lt (wn_b a l n 0) i
    have hb := wn_b_le a l n 0 i
    have := ih (i + 1) (by omega)
    refine br_f (nI_ge (by omega) (by omega)) (wn_plain (c := 0) ha hl hn (by decide) (by omega) ?_)
    refine nm_r (wn_fX hb hc) (nm_r (wn_dX hc) ?_)
    by_cases e : wn_b a l n 0 i = wn_C (wn_b a l n 0) i / 16384
    · have hs : wn_C (wn_b a l n 0) (i + 1) = 2 * wn_C (wn_b a l n 0) i % 32768 := if_pos e
      rw [hs] at this
      rw [if_pos e]
      exact br_f (by decide) (nm_r (nI_1 i) this)
    · have hs : wn_C (wn_b a l n 0) (i + 1) = (2 * wn_C (wn_b a l n 0) i % 32768) ^^^ 17817 := if_neg e
      rw [hs] at this
      rw [if_neg e]
      exact br_t rfl (nm_r (wn_px _) (nm_r (nI_1 i) this))
theorem wn_check (ha : a < 2048) (hl : l ≤ 8) (hn : n < 2 ^ 64) (h : post (nI (wn_C (wn_b a l n 0) (19 + 8 * l)))) : wpX_checkNumber post (nI a) (nI l) (lN n) := by
  unfold wpX_checkNumber
  exact nm_r (wn_19 l) ⟨19 + 8 * l + 1, wn_chk ha hl hn h (19 + 8 * l) 0 (by omega)⟩
theorem wn_out37 {c i s1 s2 s3 : Nat} {J : Int32 → Int32 → Int32 → Int32 → Prop} {x5 : Int32} (ha : a < 2048) (hl : l ≤ 8) (hn : n < 2 ^ 64) (hc : c < 32768) (hi : i < 34 + 8 * l) (h2 : s2 ≤ 1)
    (h : J (nI (s1 + 1)) (nI (wn_b a l n c i)) (nI (if wn_b a l n c i = s2 then s3 + 1 else 1)) (nI (i + 1))) :
    wX_bitsPutOut_37 post J (nI a) (nI l) (lN n) (nI c) x5 (nI s1) (nI s2) (nI s3) (nI i) := by
  have hb := wn_b_le a l n c i
  unfold wX_bitsPutOut_37
  refine wn_plain ha hl hn hc hi ?_
  by_cases e : wn_b a l n c i = s2
  · rw [if_pos e] at h
    exact br_t (congrArg nI e) (nm_r (nI_1 s3) (nm_r (nI_1 s1) (nm_r (nI_1 i) h)))
  · rw [if_neg e] at h
    exact br_f (fun z => e ((nI_eq (by omega) (by omega)).mp z)) (nm_r (nI_1 s1) (nm_r (nI_1 i) h))
theorem wn_outL {c N : Nat} (ha : a < 2048) (hl : l ≤ 8) (hn : n < 2 ^ 64) (hc : c < 32768) (hN : N ≤ 34 + 8 * l) (h : post (nI (wn_P (wn_b a l n c) N).1)) : ∀ d i, i + d = N →
    wX_bitsPutOut_12 post (nI a) (nI l) (lN n) (nI c) (nI N) (d + 1) (nI (wn_P (wn_b a l n c) i).1) (nI (wn_P (wn_b a l n c) i).2.1) (nI (wn_P (wn_b a l n c) i).2.2) (nI i) := by
  intro d
  induction d with
  | zero =>
    intro i hi
    have e : i = N := by omega
    subst e
    exact br_t (nI_le (Nat.le_refl _) (by omega)) h
  | succ d ih =>
    intro i hi
    have := ih (i + 1) (by omega)
    have ok : wn_ok i (wn_P (wn_b a l n c) i) := wn_P_ok (fun j => wn_b_le a l n c j) i
    obtain ⟨o1, o2, o3, o4⟩ := ok
    refine br_f (nI_ge (by omega) (by omega)) ?_
    by_cases e : (wn_P (wn_b a l n c) i).2.2 = 5
    · have hs : wn_P (wn_b a l n c) (i + 1) = ((wn_P (wn_b a l n c) i).1 + 2, wn_b a l n c i, if wn_b a l n c i = 1 - (wn_P (wn_b a l n c) i).2.1 then 2 else 1) := if_pos e
      rw [hs] at this
      refine br_t (show nI _ = 5 from congrArg nI e) (nm_r (pk_sub (a := 1) o3) (nm_r (nI_1 _) ?_))
      exact wn_out37 (s3 := 1) ha hl hn hc (by omega) (by omega) this
    · have hs : wn_P (wn_b a l n c) (i + 1) = ((wn_P (wn_b a l n c) i).1 + 1, wn_b a l n c i, if wn_b a l n c i = (wn_P (wn_b a l n c) i).2.1 then (wn_P (wn_b a l n c) i).2.2 + 1 else 1) := if_neg e
      rw [hs] at this
      refine br_f (fun z => e ((nI_eq (b := 5) (by omega) (by decide)).mp z)) ?_
      exact wn_out37 ha hl hn hc (by omega) o3 this
theorem wn_out {c N : Nat} (ha : a < 2048) (hl : l ≤ 8) (hn : n < 2 ^ 64) (hc : c < 32768) (hN : N ≤ 34 + 8 * l) (h : post (nI (wn_P (wn_b a l n c) N).1)) :
    wpX_bitsPutOut post (nI a) (nI l) (lN n) (nI c) (nI N) := by
  unfold wpX_bitsPutOut
  exact ⟨N + 1, wn_outL ha hl hn hc hN h N 0 (by omega)⟩
end
