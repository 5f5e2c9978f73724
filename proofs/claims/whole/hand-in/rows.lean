section
/-! pure rows: pasted from the kit's rows to paste, then the bits of a frame -/
theorem pk_us {f : Nat → Int32} {k : Nat} {x : Int32} : upd f k x k = x := if_pos rfl
theorem pk_un {f : Nat → Int32} {k j : Nat} {x : Int32} (h : j ≠ k) : upd f k x j = f j := if_neg h
theorem pk_uLs {f : Nat → Int64} {k : Nat} {x : Int64} : vp_updL f k x k = x := if_pos rfl
theorem pk_uLn {f : Nat → Int64} {k j : Nat} {x : Int64} (h : j ≠ k) : vp_updL f k x j = f j := if_neg h
theorem pk_sub {a b : Nat} (h : b ≤ a) : nI a - nI b = nI (a - b) := by
  obtain ⟨c, rfl⟩ : ∃ c, a = c + b := ⟨a - b, by omega⟩
  rw [← nI_add, Int32.add_sub_cancel, Nat.add_sub_cancel]
theorem pk_m1 (n : Nat) : nI (n + 1) + (-1) = nI n := by
  rw [← nI_1, Int32.add_assoc, show (1 : Int32) + (-1) = 0 from rfl, Int32.add_zero]
theorem pk_mul (a b : Nat) : nI a * nI b = nI (a * b) := (Int32.ofNat_mul a b).symm
theorem pk_div {a d : Nat} (ha : a < 2 ^ 31) (h0 : 0 < d) (hd : d < 2 ^ 31) : nI a / nI d = nI (a / d) := by
  apply Int32.toInt_inj.mp
  rw [lg_idiv_nonneg (by rw [nI_toInt ha]; omega) (by rw [nI_toInt hd]; omega), nI_toInt ha, nI_toInt hd, nI_toInt (Nat.lt_of_le_of_lt (Nat.div_le_self a d) ha)]
  first | rfl | exact (Int.natCast_ediv _ _).symm
theorem pk_rem {a d : Nat} (ha : a < 2 ^ 31) (h0 : 0 < d) (hd : d < 2 ^ 31) : nI a - nI a / nI d * nI d = nI (a % d) := by
  rw [pk_div ha h0 hd, pk_mul, pk_sub (Nat.div_mul_le_self a d)]
  exact congrArg nI (by have := Nat.div_add_mod' a d; omega)
theorem pk_ix (x : Int32) {n : Nat} (hn : n < 2 ^ 31) : x < 0 ∨ nI n ≤ x ∨ ∃ j : Nat, j < n ∧ x = nI j := by
  by_cases h : x < 0
  · exact Or.inl h
  · obtain ⟨j, hj, rfl⟩ := nI_of h
    by_cases h2 : j < n
    · exact Or.inr (Or.inr ⟨j, h2, rfl⟩)
    · exact Or.inr (Or.inl (nI_le (by omega) hj))
theorem pk_le {x y : Int32} {A B : Prop} (a b : Nat) (f : a ≤ b → A) (g : b < a → B) (hx : x = nI a := by rfl) (hy : y = nI b := by rfl) (ha : a < 2 ^ 31 := by omega) (hb : b < 2 ^ 31 := by omega) : (x ≤ y → A) ∧ (¬ x ≤ y → B) := by
  subst hx hy
  rw [nI_leI ha hb]
  exact ⟨f, fun z => g (by omega)⟩
theorem pk_lt {x y : Int32} {A B : Prop} (a b : Nat) (f : a < b → A) (g : b ≤ a → B) (hx : x = nI a := by rfl) (hy : y = nI b := by rfl) (ha : a < 2 ^ 31 := by omega) (hb : b < 2 ^ 31 := by omega) : (x < y → A) ∧ (¬ x < y → B) := by
  subst hx hy
  rw [nI_ltI ha hb]
  exact ⟨f, fun z => g (by omega)⟩
theorem pk_eq {x y : Int32} {A B : Prop} (a b : Nat) (f : a = b → A) (g : a ≠ b → B) (hx : x = nI a := by rfl) (hy : y = nI b := by rfl) (ha : a < 2 ^ 31 := by omega) (hb : b < 2 ^ 31 := by omega) : (x = y → A) ∧ (¬ x = y → B) := by
  subst hx hy
  rw [nI_eq ha hb]
  exact ⟨f, g⟩
theorem pk_in {x : Int32} (n N : Nat) (h : n < N) (hx : x = nI n := by rfl) (hN : N < 2 ^ 31 := by omega) : vp_in x N := by
  subst hx
  exact vp_in_nI h hN
theorem pk_cl {x : Int32} (n : Nat) (hx : x = nI n := by rfl) (h : n < 2 ^ 31 := by omega) : x.toNatClampNeg = n := by
  subst hx
  exact nI_clamp h
theorem pk_tn {n : Nat} (h : n < 2 ^ 32) : (nI n).toBitVec.toNat = n := Nat.mod_eq_of_lt h
theorem pk_and (x : Int32) {m : Int32} (k : Nat) (hm : m.toBitVec.toNat = 2 ^ k - 1) : x &&& m = nI (x.toBitVec.toNat % 2 ^ k) := by
  apply Int32.toBitVec_inj.mp
  apply BitVec.eq_of_toNat_eq
  rw [Int32.toBitVec_and, BitVec.toNat_and, hm, Nat.and_two_pow_sub_one_eq_mod]
  show _ = (BitVec.ofNat 32 _).toNat
  rw [BitVec.toNat_ofNat]
  exact (Nat.mod_eq_of_lt (Nat.lt_of_le_of_lt (Nat.mod_le _ _) x.toBitVec.isLt)).symm
theorem pk_andN {n : Nat} (h : n < 2 ^ 32) {m : Int32} (k : Nat) (hm : m.toBitVec.toNat = 2 ^ k - 1) : nI n &&& m = nI (n % 2 ^ k) := by
  rw [pk_and _ k hm, pk_tn h]
theorem pk_shl (a s : Int32) (k : Nat) (hs : (s.toBitVec.smod 32).toNat = k) : (a <<< s).toBitVec.toNat = a.toBitVec.toNat * 2 ^ k % 2 ^ 32 := by
  show (a.toBitVec <<< (s.toBitVec.smod 32).toNat).toNat = _
  rw [hs, BitVec.toNat_shiftLeft, Nat.shiftLeft_eq]
theorem pk_shlN {n : Nat} (s : Int32) (k : Nat) (hs : (s.toBitVec.smod 32).toNat = k) (h : n * 2 ^ k < 2 ^ 32) : nI n <<< s = nI (n * 2 ^ k) := by
  apply Int32.toBitVec_inj.mp
  apply BitVec.eq_of_toNat_eq
  have hn : n < 2 ^ 32 := Nat.lt_of_le_of_lt (Nat.le_mul_of_pos_right n (Nat.two_pow_pos k)) h
  rw [pk_shl _ _ k hs, pk_tn hn, pk_tn h, Nat.mod_eq_of_lt h]
theorem pk_shr (a s : Int32) (k : Nat) (hs : (s.toBitVec.smod 32).toNat = k) : (a >>> s).toInt = a.toInt >>> k := by
  show (a.toBitVec.sshiftRight (s.toBitVec.smod 32).toNat).toInt = _
  rw [hs, BitVec.toInt_sshiftRight]
  rfl
theorem pk_shrN {n : Nat} (h : n < 2 ^ 31) (s : Int32) (k : Nat) (hs : (s.toBitVec.smod 32).toNat = k) : nI n >>> s = nI (n / 2 ^ k) := by
  apply Int32.toInt_inj.mp
  have h2 : n / 2 ^ k ≤ n := Nat.div_le_self _ _
  rw [pk_shr _ _ k hs, nI_toInt h, nI_toInt (by omega), Int.shiftRight_eq_div_pow]
  rfl
theorem s_l : ∀ n, n < 32 → ((nI n &&& 31).toBitVec.smod 32).toNat = n := by decide +kernel
theorem nx_xor (a b : Nat) : nI a ^^^ nI b = nI (a ^^^ b) := by
  apply Int32.toBitVec_inj.1
  show BitVec.ofNat 32 a ^^^ BitVec.ofNat 32 b = BitVec.ofNat 32 (a ^^^ b)
  apply BitVec.eq_of_getLsbD_eq
  intro i hi
  simp [hi]
theorem wb_tb (n : Nat) : (lN n).toBitVec = BitVec.ofNat 64 n := rfl
theorem wb_inj {a b : Int64} (h : a.toBitVec = b.toBitVec) : a = b := Int64.toBitVec_inj.mp h
theorem wb_tn {n : Nat} (h : n < 2 ^ 64) : (lN n).toBitVec.toNat = n := by rw [wb_tb, BitVec.toNat_ofNat, Nat.mod_eq_of_lt h]
theorem wb_of (x : Int64) : ∃ n, n < 2 ^ 64 ∧ x = lN n := ⟨x.toBitVec.toNat, x.toBitVec.isLt, wb_inj (by rw [wb_tb]; simp)⟩
theorem wb_c : ∀ k, k < 64 → ((nI k).toInt64 &&& 63) = lN k := by decide +kernel
theorem wb_cu : ∀ k, k < 64 → ((nI k).toInt64.toUInt64 &&& Int64.toUInt64 63) = UInt64.ofNat k := by decide +kernel
theorem wb_sm : ∀ k, k < 64 → (BitVec.ofNat 64 k).smod 64 = BitVec.ofNat 64 k := by decide +kernel
theorem wb_pw {a b : Nat} (h : a ≤ b) : 2 ^ b = 2 ^ a * 2 ^ (b - a) := by rw [← Nat.pow_add]; congr 1; omega
theorem wb_lt2 {a b : Nat} (h : a < b) : 2 ^ a < 2 ^ b := Nat.pow_lt_pow_right (by decide) h
theorem wb_shr {n k : Nat} (hn : n < 2 ^ 64) (hk : k < 64) : ((lN n).toUInt64 >>> ((nI k).toInt64.toUInt64 &&& Int64.toUInt64 63)).toInt64 = lN (n / 2 ^ k) := by
  rw [wb_cu k hk]
  apply wb_inj
  apply BitVec.eq_of_toNat_eq
  show ((lN n).toUInt64 >>> UInt64.ofNat k).toNat = (BitVec.ofNat 64 _).toNat
  have h1 : (UInt64.ofNat k).toNat = k := by
    show (BitVec.ofNat 64 k).toNat = k
    rw [BitVec.toNat_ofNat, Nat.mod_eq_of_lt (by omega)]
  have h2 : (lN n).toUInt64.toNat = n := wb_tn hn
  rw [UInt64.toNat_shiftRight, h1, h2, Nat.mod_eq_of_lt hk, Nat.shiftRight_eq_div_pow, BitVec.toNat_ofNat, Nat.mod_eq_of_lt (Nat.lt_of_le_of_lt (Nat.div_le_self _ _) hn)]
theorem wb_and {a b : Nat} (ha : a < 2 ^ 64) (hb : b < 2 ^ 64) : lN a &&& lN b = lN (a &&& b) := by
  apply wb_inj
  rw [Int64.toBitVec_and, wb_tb, wb_tb, wb_tb]
  apply BitVec.eq_of_toNat_eq
  rw [BitVec.toNat_and, BitVec.toNat_ofNat, BitVec.toNat_ofNat, BitVec.toNat_ofNat, Nat.mod_eq_of_lt ha, Nat.mod_eq_of_lt hb, Nat.mod_eq_of_lt (Nat.and_lt_two_pow _ hb)]
theorem wb_mask {n k : Nat} (hn : n < 2 ^ 64) (hk : k < 64) : lN n &&& lN (2 ^ k - 1) = lN (n % 2 ^ k) := by
  rw [wb_and hn (by have := wb_lt2 hk; omega), Nat.and_two_pow_sub_one_eq_mod]
theorem wb_a1 {n : Nat} (hn : n < 2 ^ 64) : lN n &&& 1 = lN (n % 2) := wb_mask (k := 1) hn (by decide)
theorem wb_bit {n k : Nat} (hn : n < 2 ^ 64) (hk : k < 64) : ((lN n).toUInt64 >>> ((nI k).toInt64.toUInt64 &&& Int64.toUInt64 63)).toInt64 &&& 1 = lN (n / 2 ^ k % 2) := by
  rw [wb_shr hn hk, wb_a1 (Nat.lt_of_le_of_lt (Nat.div_le_self _ _) hn)]

theorem wn_nb0 : vp_nar .boolean 0 = 0 := by first | rfl | decide
theorem wn_nb1 : vp_nar .boolean 1 = 1 := by first | rfl | decide
def wn_set (f : Nat → Nat) (k a : Nat) : Nat → Nat := fun j => if j = k then a else f j
theorem wn_set_s {f : Nat → Nat} {k a : Nat} : wn_set f k a k = a := if_pos rfl
theorem wn_set_n {f : Nat → Nat} {k a j : Nat} (h : j ≠ k) : wn_set f k a j = f j := if_neg h
theorem wn_upd (f : Nat → Nat) (k a : Nat) : upd (fun z => nI (f z)) k (nI a) = fun z => nI (wn_set f k a z) := by
  funext j
  by_cases e : j = k
  · subst e
    rw [pk_us, wn_set_s]
  · rw [pk_un e, wn_set_n e]
theorem wn_or (a b : Nat) : nI a ||| nI b = nI (a ||| b) := by
  apply Int32.toBitVec_inj.1
  show BitVec.ofNat 32 a ||| BitVec.ofNat 32 b = BitVec.ofNat 32 (a ||| b)
  apply BitVec.eq_of_getLsbD_eq
  intro i hi
  simp [hi]
theorem wn_and1 {m : Nat} (h : m < 2 ^ 32) : nI m &&& 1 = nI (m % 2) := pk_andN h 1 (by decide)
theorem wn_19 (l : Nat) : (19 : Int32) + 8 * nI l = nI (19 + 8 * l) := by
  show nI 19 + nI 8 * nI l = _
  rw [pk_mul, nI_add]
theorem wn_head {a l : Nat} (ha : a < 2048) (hl : l ≤ 8) : (nI a <<< ((7 : Int32) &&& 31)) ||| nI l = nI (a * 128 + l) := by
  rw [pk_shlN _ 7 (by decide) (by omega), wn_or]
  refine congrArg nI ?_
  have := Nat.two_pow_add_eq_or_of_lt (i := 7) (b := l) (by omega) a
  rw [Nat.mul_comm] at this
  exact this.symm
/-- bit i of the plain bits of a frame: id a, length l, data n, check number c -/
def wn_b (a l n c i : Nat) : Nat :=
  if i < 19 then (a * 128 + l) / 2 ^ (18 - i) % 2 else if i < 19 + 8 * l then n / 2 ^ (18 + 8 * l - i) % 2 else c / 2 ^ (33 + 8 * l - i) % 2
theorem wn_b_le (a l n c i : Nat) : wn_b a l n c i ≤ 1 := by
  unfold wn_b
  split
  · exact Nat.le_of_lt_succ (Nat.mod_lt _ (by decide))
  · split
    · exact Nat.le_of_lt_succ (Nat.mod_lt _ (by decide))
    · exact Nat.le_of_lt_succ (Nat.mod_lt _ (by decide))
theorem wn_sh {c s : Nat} (hc : c < 2 ^ 31) (hs : s < 32) : (nI c >>> (nI s &&& 31)) &&& 1 = nI (c / 2 ^ s % 2) := by
  rw [pk_shrN hc _ s (s_l s hs), wn_and1 (Nat.lt_of_le_of_lt (Nat.div_le_self _ _) (by omega))]
/-- the lowest bit of a long cast to an int -/
theorem wn_low (z : Int64) : z.toInt32 &&& 1 = nI (z.toBitVec.toNat % 2) := by
  have e : z.toInt32.toBitVec.toNat % 2 = z.toBitVec.toNat % 2 := by
    rw [Int64.toBitVec_toInt32, BitVec.signExtend_eq_setWidth_of_le _ (by decide), BitVec.toNat_setWidth]
    omega
  have h := pk_and z.toInt32 (m := 1) 1 (by decide)
  rw [h]
  exact congrArg nI e
theorem wn_dsh {n s : Nat} (hn : n < 2 ^ 64) (hs : s < 64) : (lN n >>> ((nI s).toInt64 &&& 63)).toInt32 &&& 1 = nI (n / 2 ^ s % 2) := by
  rw [wn_low, wb_c s hs]
  refine congrArg nI ?_
  have e : (lN n >>> lN s).toBitVec = (lN n).toBitVec.sshiftRight s := by
    show (lN n).toBitVec.sshiftRight ((lN s).toBitVec.smod 64).toNat = _
    rw [wb_tb s, wb_sm s hs, BitVec.toNat_ofNat, Nat.mod_eq_of_lt (by omega)]
  rw [e]
  have g : ((lN n).toBitVec.sshiftRight s).getLsbD 0 = (lN n).toBitVec.getLsbD s := by
    rw [BitVec.getLsbD_sshiftRight]
    simp [hs]
  have g1 : ((lN n).toBitVec.sshiftRight s).toNat.testBit 0 = (lN n).toBitVec.toNat.testBit s := g
  rw [wb_tn hn, Nat.testBit_zero, Nat.testBit_eq_decide_div_mod_eq] at g1
  have g2 : (((lN n).toBitVec.sshiftRight s).toNat % 2 = 1) ↔ (n / 2 ^ s % 2 = 1) := decide_eq_decide.mp g1
  generalize ((lN n).toBitVec.sshiftRight s).toNat = m at g2 ⊢
  generalize n / 2 ^ s = q at g2 ⊢
  omega
theorem wn_ush {n s : Nat} (hn : n < 2 ^ 64) (hs : s < 64) : ((((lN n).toUInt64 >>> ((nI s).toInt64.toUInt64 &&& Int64.toUInt64 63)).toInt64) &&& 1).toInt32 = nI (n / 2 ^ s % 2) := by
  rw [wb_bit hn hs, lN_i]
/-- a step of the check number -/
def wn_cs (b c : Nat) : Nat := if b = c / 16384 then 2 * c % 32768 else (2 * c % 32768) ^^^ 17817
def wn_C (f : Nat → Nat) : Nat → Nat
  | 0 => 0
  | n + 1 => wn_cs (f n) (wn_C f n)
theorem wn_cs_lt (b c : Nat) : wn_cs b c < 32768 := by
  unfold wn_cs
  split
  · exact Nat.mod_lt _ (by decide)
  · exact Nat.xor_lt_two_pow (n := 15) (Nat.mod_lt _ (by decide)) (by decide)
theorem wn_C_lt (f : Nat → Nat) (n : Nat) : wn_C f n < 32768 := by
  cases n with
  | zero => show 0 < 32768; decide
  | succ n => exact wn_cs_lt _ _
theorem wn_C_cg {f g : Nat → Nat} : ∀ n, (∀ i, i < n → f i = g i) → wn_C f n = wn_C g n := by
  intro n
  induction n with
  | zero => intro _; rfl
  | succ n ih =>
    intro h
    show wn_cs (f n) (wn_C f n) = wn_cs (g n) (wn_C g n)
    rw [h n (by omega), ih (fun i hi => h i (by omega))]
theorem wn_f0 {b q : Nat} (hb : b ≤ 1) (hq : q ≤ 1) : nI b ^^^ nI q = if b = q then 0 else 1 := by
  obtain rfl | rfl : b = 0 ∨ b = 1 := by omega
  · obtain rfl | rfl : q = 0 ∨ q = 1 := by omega
    · decide
    · decide
  · obtain rfl | rfl : q = 0 ∨ q = 1 := by omega
    · decide
    · decide
theorem wn_fX {b c : Nat} (hb : b ≤ 1) (hc : c < 32768) : nI b ^^^ (nI c >>> ((14 : Int32) &&& 31)) = if b = c / 16384 then 0 else 1 := by
  rw [pk_shrN (by omega) _ 14 (by decide)]
  exact wn_f0 hb (show c / 16384 ≤ 1 by omega)
theorem wn_fY {b c : Nat} (hb : b ≤ 1) (hc : c < 32768) : nI b ^^^ ((nI c >>> ((14 : Int32) &&& 31)) &&& 1) = if b = c / 16384 then 0 else 1 := by
  rw [pk_shrN (by omega) _ 14 (by decide), wn_and1 (show c / 2 ^ 14 < 2 ^ 32 by omega)]
  have e : c / 2 ^ 14 % 2 = c / 16384 := by omega
  rw [e]
  exact wn_f0 hb (by omega)
theorem wn_dX {c : Nat} (hc : c < 32768) : (2 * nI c) &&& 32767 = nI (2 * c % 32768) := by
  show (nI 2 * nI c) &&& 32767 = _
  rw [pk_mul]
  exact pk_andN (by omega) 15 (by decide)
theorem wn_dY {c : Nat} (hc : c < 32768) : (nI c * 2) &&& 32767 = nI (2 * c % 32768) := by
  show (nI c * nI 2) &&& 32767 = _
  rw [pk_mul, Nat.mul_comm]
  exact pk_andN (by omega) 15 (by decide)
theorem wn_px (m : Nat) : nI m ^^^ 17817 = nI (m ^^^ 17817) := nx_xor m 17817
/-- a plain bit is put out, the stuffed one ahead of it where it is due: how many so far, the last, how many equal -/
def wn_put (b : Nat) (s : Nat × Nat × Nat) : Nat × Nat × Nat :=
  if s.2.2 = 5 then (s.1 + 2, b, if b = 1 - s.2.1 then 2 else 1) else (s.1 + 1, b, if b = s.2.1 then s.2.2 + 1 else 1)
def wn_P (f : Nat → Nat) : Nat → Nat × Nat × Nat
  | 0 => (0, 0, 0)
  | n + 1 => wn_put (f n) (wn_P f n)
def wn_ok (n : Nat) (s : Nat × Nat × Nat) : Prop := n ≤ s.1 ∧ s.1 ≤ 2 * n ∧ s.2.1 ≤ 1 ∧ s.2.2 ≤ 5
theorem wn_put_ok {n b : Nat} {s : Nat × Nat × Nat} (hb : b ≤ 1) (h : wn_ok n s) : wn_ok (n + 1) (wn_put b s) := by
  obtain ⟨s1, s2, s3⟩ := s
  unfold wn_ok at h ⊢
  unfold wn_put
  dsimp only at h ⊢
  by_cases e : s3 = 5
  · rw [if_pos e]
    by_cases e2 : b = 1 - s2
    · rw [if_pos e2]
      dsimp only
      omega
    · rw [if_neg e2]
      dsimp only
      omega
  · rw [if_neg e]
    by_cases e2 : b = s2
    · rw [if_pos e2]
      dsimp only
      omega
    · rw [if_neg e2]
      dsimp only
      omega
theorem wn_P_ok {f : Nat → Nat} (hf : ∀ i, f i ≤ 1) : ∀ n, wn_ok n (wn_P f n) := by
  intro n
  induction n with
  | zero => exact ⟨Nat.le_refl 0, Nat.le_refl 0, Nat.zero_le 1, Nat.zero_le 5⟩
  | succ n ih => exact wn_put_ok (hf n) ih
end
section
/-! X's own reckoning of a frame's bits -/
section
variable {a l n : Nat} {post : Int32 → Prop}
theorem wn_plain {c i : Nat} (ha : a < 2048) (hl : l ≤ 8) (hn : n < 2 ^ 64) (hc : c < 32768) (hi : i < 34 + 8 * l) (h : post (nI (wn_b a l n c i))) : wpX_plainBit post (nI a) (nI l) (lN n) (nI c) (nI i) := by
  unfold wpX_plainBit
  refine nm_r (wn_19 l) ?_
  unfold wn_b at h
  by_cases h1 : i < 19
  · rw [if_pos h1] at h
    refine br_f (show ¬ (19 : Int32) ≤ nI i from nI_ge (b := 19) h1 (by decide)) (nm_r (wn_head ha hl) ?_)
    rw [show (18 : Int32) - nI i = nI (18 - i) from pk_sub (a := 18) (by omega), wn_sh (by omega) (by omega)]
    exact h
  · rw [if_neg h1] at h
    refine br_t (show (19 : Int32) ≤ nI i from nI_le (a := 19) (by omega) (by omega)) ?_
    by_cases h2 : i < 19 + 8 * l
    · rw [if_pos h2] at h
      refine br_f (nI_ge h2 (by omega)) ?_
      have e : nI (19 + 8 * l) - 1 - nI i = nI (18 + 8 * l - i) := by
        rw [show nI (19 + 8 * l) - 1 = nI (18 + 8 * l) from pk_sub (b := 1) (by omega) |>.trans (congrArg nI (by omega)), pk_sub (by omega)]
      rw [e, wn_dsh hn (by omega)]
      exact h
    · rw [if_neg h2] at h
      refine br_t (nI_le (by omega) (by omega)) ?_
      have e : nI (19 + 8 * l) + 15 - 1 - nI i = nI (33 + 8 * l - i) := by
        rw [show nI (19 + 8 * l) + 15 = nI (34 + 8 * l) from (nI_add _ 15).trans (congrArg nI (by omega)), show nI (34 + 8 * l) - 1 = nI (33 + 8 * l) from (pk_sub (b := 1) (by omega)).trans (congrArg nI (by omega)), pk_sub (by omega)]
      rw [e, wn_sh (by omega) (by omega)]
      exact h
theorem wn_chk (ha : a < 2048) (hl : l ≤ 8) (hn : n < 2 ^ 64) (h : post (nI (wn_C (wn_b a l n 0) (19 + 8 * l)))) : ∀ d i, i + d = 19 + 8 * l →
    wX_checkNumber_15 post (nI a) (nI l) (lN n) (nI (19 + 8 * l)) (d + 1) (nI (wn_C (wn_b a l n 0) i)) (nI i) := by
  intro d
  induction d with
  | zero =>
    intro i hi
    have e : i = 19 + 8 * l := by omega
    subst e
    exact br_t (nI_le (Nat.le_refl _) (by omega)) h
  | succ d ih =>
    intro i hi
    have hc := wn_C_lt (wn_b a l n 0) i
    have hb := wn_b_le a l n 0 i
    have := ih (i + 1) (by omega)
    refine br_f (nI_ge (by omega) (by omega)) (wn_plain (c := 0) ha hl hn (by decide) (by omega) ?_)
    refine nm_r (wn_fX hb hc) (nm_r (wn_dX hc) ?_)
    by_cases e : wn_b a l n 0 i = wn_C (wn_b a l n 0) i / 16384
    · have hs : wn_C (wn_b a l n 0) (i + 1) = 2 * wn_C (wn_b a l n 0) i % 32768 := if_pos e
      rw [hs] at this
      rw [if_pos e]
      exact br_f (by decide) (nm_r (nI_1 i) this)
    · have hs : wn_C (wn_b a l n 0) (i + 1) = (2 * wn_C (wn_b a l n 0) i % 32768) ^^^ 17817 := if_neg e
      rw [hs] at this
      rw [if_neg e]
      exact br_t rfl (nm_r (wn_px _) (nm_r (nI_1 i) this))
theorem wn_check (ha : a < 2048) (hl : l ≤ 8) (hn : n < 2 ^ 64) (h : post (nI (wn_C (wn_b a l n 0) (19 + 8 * l)))) : wpX_checkNumber post (nI a) (nI l) (lN n) := by
  unfold wpX_checkNumber
  exact nm_r (wn_19 l) ⟨19 + 8 * l + 1, wn_chk ha hl hn h (19 + 8 * l) 0 (by omega)⟩
theorem wn_out37 {c i s1 s2 s3 : Nat} {J : Int32 → Int32 → Int32 → Int32 → Prop} {x5 : Int32} (ha : a < 2048) (hl : l ≤ 8) (hn : n < 2 ^ 64) (hc : c < 32768) (hi : i < 34 + 8 * l) (h2 : s2 ≤ 1)
    (h : J (nI (s1 + 1)) (nI (wn_b a l n c i)) (nI (if wn_b a l n c i = s2 then s3 + 1 else 1)) (nI (i + 1))) :
    wX_bitsPutOut_37 post J (nI a) (nI l) (lN n) (nI c) x5 (nI s1) (nI s2) (nI s3) (nI i) := by
  have hb := wn_b_le a l n c i
  unfold wX_bitsPutOut_37
  refine wn_plain ha hl hn hc hi ?_
  by_cases e : wn_b a l n c i = s2
  · rw [if_pos e] at h
    exact br_t (congrArg nI e) (nm_r (nI_1 s3) (nm_r (nI_1 s1) (nm_r (nI_1 i) h)))
  · rw [if_neg e] at h
    exact br_f (fun z => e ((nI_eq (by omega) (by omega)).mp z)) (nm_r (nI_1 s1) (nm_r (nI_1 i) h))
theorem wn_outL {c N : Nat} (ha : a < 2048) (hl : l ≤ 8) (hn : n < 2 ^ 64) (hc : c < 32768) (hN : N ≤ 34 + 8 * l) (h : post (nI (wn_P (wn_b a l n c) N).1)) : ∀ d i, i + d = N →
    wX_bitsPutOut_12 post (nI a) (nI l) (lN n) (nI c) (nI N) (d + 1) (nI (wn_P (wn_b a l n c) i).1) (nI (wn_P (wn_b a l n c) i).2.1) (nI (wn_P (wn_b a l n c) i).2.2) (nI i) := by
  intro d
  induction d with
  | zero =>
    intro i hi
    have e : i = N := by omega
    subst e
    exact br_t (nI_le (Nat.le_refl _) (by omega)) h
  | succ d ih =>
    intro i hi
    have := ih (i + 1) (by omega)
    have ok : wn_ok i (wn_P (wn_b a l n c) i) := wn_P_ok (fun j => wn_b_le a l n c j) i
    obtain ⟨o1, o2, o3, o4⟩ := ok
    refine br_f (nI_ge (by omega) (by omega)) ?_
    by_cases e : (wn_P (wn_b a l n c) i).2.2 = 5
    · have hs : wn_P (wn_b a l n c) (i + 1) = ((wn_P (wn_b a l n c) i).1 + 2, wn_b a l n c i, if wn_b a l n c i = 1 - (wn_P (wn_b a l n c) i).2.1 then 2 else 1) := if_pos e
      rw [hs] at this
      refine br_t (show nI _ = 5 from congrArg nI e) (nm_r (pk_sub (a := 1) o3) (nm_r (nI_1 _) ?_))
      exact wn_out37 (s3 := 1) ha hl hn hc (by omega) (by omega) this
    · have hs : wn_P (wn_b a l n c) (i + 1) = ((wn_P (wn_b a l n c) i).1 + 1, wn_b a l n c i, if wn_b a l n c i = (wn_P (wn_b a l n c) i).2.1 then (wn_P (wn_b a l n c) i).2.2 + 1 else 1) := if_neg e
      rw [hs] at this
      refine br_f (fun z => e ((nI_eq (b := 5) (by omega) (by decide)).mp z)) ?_
      exact wn_out37 ha hl hn hc (by omega) o3 this
theorem wn_out {c N : Nat} (ha : a < 2048) (hl : l ≤ 8) (hn : n < 2 ^ 64) (hc : c < 32768) (hN : N ≤ 34 + 8 * l) (h : post (nI (wn_P (wn_b a l n c) N).1)) :
    wpX_bitsPutOut post (nI a) (nI l) (lN n) (nI c) (nI N) := by
  unfold wpX_bitsPutOut
  exact ⟨N + 1, wn_outL ha hl hn hc hN h N 0 (by omega)⟩
end
end
section
/-! Y's measure against the same fold -/
section
variable {yt ys ye yp yr yf yg yl yu yi yo ya yn yk : Int32} {on ma va se re ms ww wh bn bh : Nat → Int32} {wt bx : Nat → Int64}
variable {post : SY → Prop}
theorem wn_yput {b s1 s2 s3 : Nat} (hb : b ≤ 1) (h2 : s2 ≤ 1) (h3 : s3 ≤ 5)
    (h : post (yt, ys, ye, yp, yr, yf, yg, yl, yu, yi, nI (wn_put b (s1, s2, s3)).1, nI (wn_put b (s1, s2, s3)).2.1, nI (wn_put b (s1, s2, s3)).2.2, yk, on, ma, va, se, re, ms, ww, wh, wt, bn, bh, bx)) :
    wpY_put post (yt, ys, ye, yp, yr, yf, yg, yl, yu, yi, nI s1, nI s2, nI s3, yk, on, ma, va, se, re, ms, ww, wh, wt, bn, bh, bx) (nI b) := by
  unfold wpY_put
  by_cases e : s3 = 5
  · have ht : wn_put b (s1, s2, s3) = (s1 + 2, b, if b = 1 - s2 then 2 else 1) := if_pos e
    rw [ht] at h
    refine br_t (show nI s3 = 5 from congrArg nI e) (nm_r (pk_sub (a := 1) h2) (nm_r (nI_1 s1) ?_))
    unfold wY_put_33
    by_cases e2 : b = 1 - s2
    · rw [if_pos e2] at h
      refine br_t (congrArg nI e2) ?_
      unfold wY_put_52
      rw [show (1 : Int32) + 1 = nI 2 from nI_1 1]
      exact nm_r (nI_1 (s1 + 1)) h
    · rw [if_neg e2] at h
      refine br_f (fun z => e2 ((nI_eq (by omega) (by omega)).mp z)) ?_
      unfold wY_put_52
      exact nm_r (nI_1 (s1 + 1)) h
  · have ht : wn_put b (s1, s2, s3) = (s1 + 1, b, if b = s2 then s3 + 1 else 1) := if_neg e
    rw [ht] at h
    refine br_f (fun z => e ((nI_eq (b := 5) (by omega) (by decide)).mp z)) ?_
    unfold wY_put_33
    by_cases e2 : b = s2
    · rw [if_pos e2] at h
      refine br_t (congrArg nI e2) ?_
      unfold wY_put_52
      rw [nI_1 s3]
      exact nm_r (nI_1 s1) h
    · rw [if_neg e2] at h
      refine br_f (fun z => e2 ((nI_eq (by omega) (by omega)).mp z)) ?_
      unfold wY_put_52
      exact nm_r (nI_1 s1) h
theorem wn_yputc {b c s1 s2 s3 : Nat} (hb : b ≤ 1) (h2 : s2 ≤ 1) (h3 : s3 ≤ 5) (hc : c < 32768)
    (h : post (yt, ys, ye, yp, yr, yf, yg, yl, yu, yi, nI (wn_put b (s1, s2, s3)).1, nI (wn_put b (s1, s2, s3)).2.1, nI (wn_put b (s1, s2, s3)).2.2, nI (wn_cs b c), on, ma, va, se, re, ms, ww, wh, wt, bn, bh, bx)) :
    wpY_putChecked post (yt, ys, ye, yp, yr, yf, yg, yl, yu, yi, nI s1, nI s2, nI s3, nI c, on, ma, va, se, re, ms, ww, wh, wt, bn, bh, bx) (nI b) := by
  unfold wpY_putChecked
  refine wn_yput hb h2 h3 ?_
  refine nm_r (wn_fY hb hc) (nm_r (wn_dY hc) ?_)
  by_cases e : b = c / 16384
  · have hs : wn_cs b c = 2 * c % 32768 := if_pos e
    rw [hs] at h
    rw [if_pos e]
    exact br_f (by decide) h
  · have hs : wn_cs b c = (2 * c % 32768) ^^^ 17817 := if_neg e
    rw [hs] at h
    rw [if_neg e]
    exact br_t rfl (nm_r (wn_px _) h)
variable {F : Nat → Nat}
theorem wn_ystep {i : Nat} {x : Int32} (hF : ∀ j, F j ≤ 1) (e : x = nI (F i)) (h : post (yt, ys, ye, yp, yr, yf, yg, yl, yu, yi, nI (wn_P F (i + 1)).1, nI (wn_P F (i + 1)).2.1, nI (wn_P F (i + 1)).2.2, nI (wn_C F (i + 1)), on, ma, va, se, re, ms, ww, wh, wt, bn, bh, bx)) : wpY_putChecked post (yt, ys, ye, yp, yr, yf, yg, yl, yu, yi, nI (wn_P F i).1, nI (wn_P F i).2.1, nI (wn_P F i).2.2, nI (wn_C F i), on, ma, va, se, re, ms, ww, wh, wt, bn, bh, bx) x := by
  subst e
  obtain ⟨o1, o2, o3, o4⟩ := wn_P_ok hF i
  exact wn_yputc (hF i) o3 o4 (wn_C_lt F i) h
theorem wn_ystep1 {i c : Nat} {x : Int32} (hF : ∀ j, F j ≤ 1) (e : x = nI (F i)) (h : post (yt, ys, ye, yp, yr, yf, yg, yl, yu, yi, nI (wn_P F (i + 1)).1, nI (wn_P F (i + 1)).2.1, nI (wn_P F (i + 1)).2.2, nI c, on, ma, va, se, re, ms, ww, wh, wt, bn, bh, bx)) : wpY_put post (yt, ys, ye, yp, yr, yf, yg, yl, yu, yi, nI (wn_P F i).1, nI (wn_P F i).2.1, nI (wn_P F i).2.2, nI c, on, ma, va, se, re, ms, ww, wh, wt, bn, bh, bx) x := by
  subst e
  obtain ⟨o1, o2, o3, o4⟩ := wn_P_ok hF i
  exact wn_yput (hF i) o3 o4 h
def wn_dn : Nat → Int32
  | 0 => -1
  | r + 1 => nI r
theorem wn_dn_s (r : Nat) : nI r + (-1) = wn_dn r := match r with
  | 0 => by decide
  | r + 1 => pk_m1 r
theorem wn_neg : (-1 : Int32) < 0 := by decide
/-- the check number's bits -/
theorem wn_m142 {N M : Nat} (hF : ∀ j, F j ≤ 1) (hN : N < 32768) (hb : ∀ r i, i + (r + 1) = M → r < 15 → F i = N / 2 ^ r % 2) (h : post (yt, ys, ye, yp, yr, yf, yg, yl, yu, yi, nI (wn_P F M).1, nI (wn_P F M).2.1, nI (wn_P F M).2.2, nI N, on, ma, va, se, re, ms, ww, wh, wt, bn, bh, bx)) :
    ∀ r i, i + r = M → r ≤ 15 → wY_measure_142 post (nI N) (r + 1) (wn_dn r) yt ys ye yp yr yf yg yl yu yi (nI (wn_P F i).1) (nI (wn_P F i).2.1) (nI (wn_P F i).2.2) (nI N) on ma va se re ms ww wh wt bn bh bx := by
  intro r
  induction r with
  | zero =>
    intro i hi _
    have e : i = M := by omega
    subst e
    exact br_t wn_neg h
  | succ r ih =>
    intro i hi hr
    refine br_f (nI_pos (by omega)) ?_
    refine wn_ystep1 (i := i) hF ?_ (nm_r (wn_dn_s r) (ih (i + 1) (by omega) (by omega)))
    rw [show wn_dn (r + 1) = nI r from rfl, wn_sh (by omega) (by omega), hb r i hi (by omega)]
/-- the data's bits -/
theorem wn_m110 {n N l : Nat} (hF : ∀ j, F j ≤ 1) (hn : n < 2 ^ 64) (hl : l ≤ 8) (hC : wn_C F (19 + 8 * l) = N) (hb : ∀ r i, i + (r + 1) = 19 + 8 * l → r < 8 * l → F i = n / 2 ^ r % 2)
    (h : ∃ m, wY_measure_142 post (nI N) m 14 yt ys ye yp yr yf yg yl yu yi (nI (wn_P F (19 + 8 * l)).1) (nI (wn_P F (19 + 8 * l)).2.1) (nI (wn_P F (19 + 8 * l)).2.2) (nI N) on ma va se re ms ww wh wt bn bh bx) :
    ∀ r i, i + r = 19 + 8 * l → r ≤ 8 * l → wY_measure_110 post (lN n) (r + 1) (wn_dn r) yt ys ye yp yr yf yg yl yu yi (nI (wn_P F i).1) (nI (wn_P F i).2.1) (nI (wn_P F i).2.2) (nI (wn_C F i)) on ma va se re ms ww wh wt bn bh bx := by
  intro r
  induction r with
  | zero =>
    intro i hi _
    have e : i = 19 + 8 * l := by omega
    subst e
    refine br_t wn_neg ?_
    rw [hC]
    exact h
  | succ r ih =>
    intro i hi hr
    refine br_f (nI_pos (by omega)) ?_
    refine wn_ystep (i := i) hF ?_ (nm_r (wn_dn_s r) (ih (i + 1) (by omega) (by omega)))
    rw [show wn_dn (r + 1) = nI r from rfl, wn_ush hn (by omega), hb r i hi (by omega)]
/-- the length's bits -/
theorem wn_m81 {n l : Nat} (hF : ∀ j, F j ≤ 1) (hl : l ≤ 8) (hb : ∀ r i, i + (r + 1) = 19 → r < 4 → F i = l / 2 ^ r % 2)
    (h : ∃ m, wY_measure_110 post (lN n) m (8 * nI l - 1) yt ys ye yp yr yf yg yl yu yi (nI (wn_P F 19).1) (nI (wn_P F 19).2.1) (nI (wn_P F 19).2.2) (nI (wn_C F 19)) on ma va se re ms ww wh wt bn bh bx) :
    ∀ r i, i + r = 19 → r ≤ 4 → wY_measure_81 post (nI l) (lN n) (r + 1) (wn_dn r) yt ys ye yp yr yf yg yl yu yi (nI (wn_P F i).1) (nI (wn_P F i).2.1) (nI (wn_P F i).2.2) (nI (wn_C F i)) on ma va se re ms ww wh wt bn bh bx := by
  intro r
  induction r with
  | zero =>
    intro i hi _
    have e : i = 19 := by omega
    subst e
    exact br_t wn_neg (nm_e h)
  | succ r ih =>
    intro i hi hr
    refine br_f (nI_pos (by omega)) ?_
    refine wn_ystep (i := i) hF ?_ (nm_r (wn_dn_s r) (ih (i + 1) (by omega) (by omega)))
    rw [show wn_dn (r + 1) = nI r from rfl, wn_sh (by omega) (by omega), hb r i hi (by omega)]
/-- three zeros -/
theorem wn_m61 {n l : Nat} (hF : ∀ j, F j ≤ 1) (hb : ∀ i, 12 ≤ i → i < 15 → F i = 0)
    (h : ∃ m, wY_measure_81 post (nI l) (lN n) m 3 yt ys ye yp yr yf yg yl yu yi (nI (wn_P F 15).1) (nI (wn_P F 15).2.1) (nI (wn_P F 15).2.2) (nI (wn_C F 15)) on ma va se re ms ww wh wt bn bh bx) :
    ∀ d j i, j + d = 3 → i + d = 15 → wY_measure_61 post (nI l) (lN n) (d + 1) (nI j) yt ys ye yp yr yf yg yl yu yi (nI (wn_P F i).1) (nI (wn_P F i).2.1) (nI (wn_P F i).2.2) (nI (wn_C F i)) on ma va se re ms ww wh wt bn bh bx := by
  intro d
  induction d with
  | zero =>
    intro j i hj hi
    have e : j = 3 := by omega
    subst e
    have e2 : i = 15 := by omega
    subst e2
    exact br_t (by decide) h
  | succ d ih =>
    intro j i hj hi
    refine br_f (nI_ge (b := 3) (by omega) (by decide)) ?_
    refine wn_ystep (i := i) hF ?_ (nm_r (nI_1 j) (ih (j + 1) (i + 1) (by omega) (by omega)))
    rw [hb i (by omega) (by omega), nI_0]
/-- the id's bits -/
theorem wn_m29 {a n l : Nat} (hF : ∀ j, F j ≤ 1) (ha : a < 2048) (hb : ∀ r i, i + (r + 1) = 12 → r < 11 → F i = a / 2 ^ r % 2)
    (h : ∃ m, wY_measure_61 post (nI l) (lN n) m 0 yt ys ye yp yr yf yg yl yu (nI (wn_P F 12).1) (nI (wn_P F 12).1) (nI (wn_P F 12).2.1) (nI (wn_P F 12).2.2) (nI (wn_C F 12)) on ma va se re ms ww wh wt bn bh bx) :
    ∀ r i, i + r = 12 → r ≤ 11 → wY_measure_29 post (nI a) (nI l) (lN n) (r + 1) (wn_dn r) yt ys ye yp yr yf yg yl yu yi (nI (wn_P F i).1) (nI (wn_P F i).2.1) (nI (wn_P F i).2.2) (nI (wn_C F i)) on ma va se re ms ww wh wt bn bh bx := by
  intro r
  induction r with
  | zero =>
    intro i hi _
    have e : i = 12 := by omega
    subst e
    exact br_t wn_neg h
  | succ r ih =>
    intro i hi hr
    refine br_f (nI_pos (by omega)) ?_
    refine wn_ystep (i := i) hF ?_ (nm_r (wn_dn_s r) (ih (i + 1) (by omega) (by omega)))
    rw [show wn_dn (r + 1) = nI r from rfl, wn_sh (by omega) (by omega), hb r i hi (by omega)]
end
section
variable {a l n c : Nat}
theorem wn_b_pre {i : Nat} (hi : i < 19 + 8 * l) : wn_b a l n c i = wn_b a l n 0 i := by
  unfold wn_b
  by_cases h : i < 19
  · rw [if_pos h, if_pos h]
  · rw [if_neg h, if_neg h, if_pos hi, if_pos hi]
theorem wn_b_0 (ha : a < 2048) (hl : l ≤ 8) : wn_b a l n c 0 = 0 := by
  unfold wn_b
  rw [if_pos (by decide)]
  show (a * 128 + l) / 262144 % 2 = 0
  omega
theorem wn_b_id (hl : l ≤ 8) : ∀ r i, i + (r + 1) = 12 → r < 11 → wn_b a l n c i = a / 2 ^ r % 2 := by
  intro r i hi hr
  unfold wn_b
  have e : 18 - i = 7 + r := by omega
  have e2 : (a * 128 + l) / 2 ^ 7 = a := by omega
  rw [if_pos (by omega), e, Nat.pow_add, ← Nat.div_div_eq_div_mul, e2]
theorem wn_b_z (hl : l ≤ 8) : ∀ i, 12 ≤ i → i < 15 → wn_b a l n c i = 0 := by
  intro i h1 h2
  unfold wn_b
  rw [if_pos (by omega)]
  obtain rfl | rfl | rfl : i = 12 ∨ i = 13 ∨ i = 14 := by omega
  · show (a * 128 + l) / 64 % 2 = 0
    omega
  · show (a * 128 + l) / 32 % 2 = 0
    omega
  · show (a * 128 + l) / 16 % 2 = 0
    omega
theorem wn_b_l (hl : l ≤ 8) : ∀ r i, i + (r + 1) = 19 → r < 4 → wn_b a l n c i = l / 2 ^ r % 2 := by
  intro r i hi hr
  unfold wn_b
  have e : 18 - i = r := by omega
  rw [if_pos (by omega), e]
  obtain rfl | rfl | rfl | rfl : r = 0 ∨ r = 1 ∨ r = 2 ∨ r = 3 := by omega
  · show (a * 128 + l) / 1 % 2 = l / 1 % 2
    omega
  · show (a * 128 + l) / 2 % 2 = l / 2 % 2
    omega
  · show (a * 128 + l) / 4 % 2 = l / 4 % 2
    omega
  · show (a * 128 + l) / 8 % 2 = l / 8 % 2
    omega
theorem wn_b_d : ∀ r i, i + (r + 1) = 19 + 8 * l → r < 8 * l → wn_b a l n c i = n / 2 ^ r % 2 := by
  intro r i hi hr
  unfold wn_b
  have e : 18 + 8 * l - i = r := by omega
  rw [if_neg (by omega), if_pos (by omega), e]
theorem wn_b_c : ∀ r i, i + (r + 1) = 34 + 8 * l → r < 15 → wn_b a l n c i = c / 2 ^ r % 2 := by
  intro r i hi hr
  unfold wn_b
  have e : 33 + 8 * l - i = r := by omega
  rw [if_neg (by omega), if_neg (by omega), e]
theorem wn_8l : ∀ l, l < 9 → 8 * nI l - 1 = wn_dn (8 * l) := by decide +kernel
end
section
variable {yt ys ye yp yr yf yg yl yu yi yo ya yn yk : Int32} {on ma va se re ms ww wh bn bh : Nat → Int32} {wt bx : Nat → Int64}
theorem wn_meas {a l n N : Nat} {F : Nat → Nat} {post : SY → Prop} (ha : a < 2048) (hl : l ≤ 8) (hn : n < 2 ^ 64) (hN : N = wn_C (wn_b a l n 0) (19 + 8 * l)) (hFe : F = wn_b a l n N)
    (h : post (yt, ys, ye, yp, yr, yf, yg, yl, yu, nI (wn_P F 12).1, nI (wn_P F (34 + 8 * l)).1, nI (wn_P F (34 + 8 * l)).2.1, nI (wn_P F (34 + 8 * l)).2.2, nI N, on, ma, va, se, re, ms, ww, wh, wt, bn, bh, bx)) : wpY_measure post (yt, ys, ye, yp, yr, yf, yg, yl, yu, yi, yo, ya, yn, yk, on, ma, va, se, re, ms, ww, wh, wt, bn, bh, bx) (nI a) (nI l) (lN n) := by
  have hF : ∀ j, F j ≤ 1 := fun j => by rw [hFe]; exact wn_b_le _ _ _ _ _
  have hC : wn_C F (19 + 8 * l) = N := (wn_C_cg _ (fun i hi => by rw [hFe]; exact wn_b_pre hi)).trans hN.symm
  have hN' : N < 32768 := by rw [hN]; exact wn_C_lt _ _
  have k5 : ∃ m, wY_measure_142 post (nI N) m 14 yt ys ye yp yr yf yg yl yu (nI (wn_P F 12).1) (nI (wn_P F (19 + 8 * l)).1) (nI (wn_P F (19 + 8 * l)).2.1) (nI (wn_P F (19 + 8 * l)).2.2) (nI N) on ma va se re ms ww wh wt bn bh bx :=
    ⟨16, wn_m142 (M := 34 + 8 * l) hF hN' (fun r i hi hr => by rw [hFe]; exact wn_b_c r i hi hr) h 15 (19 + 8 * l) (by omega) (by omega)⟩
  have k4 : ∃ m, wY_measure_110 post (lN n) m (8 * nI l - 1) yt ys ye yp yr yf yg yl yu (nI (wn_P F 12).1) (nI (wn_P F 19).1) (nI (wn_P F 19).2.1) (nI (wn_P F 19).2.2) (nI (wn_C F 19)) on ma va se re ms ww wh wt bn bh bx := by
    rw [wn_8l l (by omega)]
    exact ⟨8 * l + 1, wn_m110 hF hn hl hC (fun r i hi hr => by rw [hFe]; exact wn_b_d r i hi hr) k5 (8 * l) 19 (by omega) (by omega)⟩
  have k3 : ∃ m, wY_measure_81 post (nI l) (lN n) m 3 yt ys ye yp yr yf yg yl yu (nI (wn_P F 12).1) (nI (wn_P F 15).1) (nI (wn_P F 15).2.1) (nI (wn_P F 15).2.2) (nI (wn_C F 15)) on ma va se re ms ww wh wt bn bh bx :=
    ⟨5, wn_m81 hF hl (fun r i hi hr => by rw [hFe]; exact wn_b_l hl r i hi hr) k4 4 15 (by omega) (by omega)⟩
  have k2 : ∃ m, wY_measure_61 post (nI l) (lN n) m 0 yt ys ye yp yr yf yg yl yu (nI (wn_P F 12).1) (nI (wn_P F 12).1) (nI (wn_P F 12).2.1) (nI (wn_P F 12).2.2) (nI (wn_C F 12)) on ma va se re ms ww wh wt bn bh bx :=
    ⟨4, wn_m61 hF (fun i h1 h2 => by rw [hFe]; exact wn_b_z hl i h1 h2) k3 3 0 12 (by omega) (by omega)⟩
  have k1 := wn_m29 (yi := yi) hF ha (fun r i hi hr => by rw [hFe]; exact wn_b_id hl r i hi hr) k2 11 1 (by omega) (by omega)
  have h0 : F 0 = 0 := by rw [hFe]; exact wn_b_0 ha hl
  have hP1 : wn_P F 1 = (1, 0, 1) := by
    show wn_put (F 0) (0, 0, 0) = _
    rw [h0]
    rfl
  have hC1 : wn_C F 1 = 0 := by
    show wn_cs (F 0) 0 = _
    rw [h0]
    rfl
  rw [hP1, hC1] at k1
  unfold wpY_measure wpY_putChecked wpY_put
  refine br_f (by decide) ?_
  unfold wY_put_33
  refine br_f (by decide) ?_
  unfold wY_put_52
  refine nm_r (show (0 : Int32) + 1 = nI 1 by decide) (nm_r (e' := 0) (by decide) (nm_r (e' := nI 0) (by decide) (br_f (by decide) ?_)))
  exact ⟨12, k1⟩
end
end
section
/-! the waiting places: what is taken, finding, taking out, the most urgent -/
def wn_tk (C : Nat → Nat) (p : Nat) : Prop := p % 4 < C (p / 4)
def wn_dis (I C : Nat → Nat) : Prop := ∀ p q, p < 16 → q < 16 → wn_tk C p → wn_tk C q → I p = I q → p = q
theorem wn_q (p : Nat) (hp : p < 2 ^ 31) : nI p / 4 = nI (p / 4) ∧ nI p - nI p / 4 * 4 = nI (p % 4) :=
  ⟨pk_div (d := 4) hp (by decide) (by decide), pk_rem (d := 4) hp (by decide) (by decide)⟩
theorem wn_at (f : Nat → Nat) {j : Nat} (hj : j < 2 ^ 31) : nI (f (nI j).toNatClampNeg) = nI (f j) := by rw [nI_clamp hj]
section
variable {xt xs xe xw xq xi xg xb xc : Int32} {ai al ac bf bc mi fm fv fo es er : Nat → Int32} {ad bd : Nat → Int64}
variable {I C : Nat → Nat} {post : Int32 → Prop}
theorem wn_takenX {p : Nat} (hC : ∀ m, C m ≤ 4) (hp : p < 16) (h1 : wn_tk C p → post 1) (h0 : ¬ wn_tk C p → post 0) : wpX_isTaken post (xt, xs, xe, xw, xq, xi, xg, xb, xc, ai, al, ad, (fun z => nI (C z)), bf, bd, bc, mi, fm, fv, fo, es, er) (nI p) := by
  obtain ⟨e1, e2⟩ := wn_q p (by omega)
  have hc := hC (p / 4)
  show ¬ (4 : Int32) = 0 ∧ ¬ (4 : Int32) = 0 ∧ vp_in (nI p / 4) 4 ∧ ((nI (C (nI p / 4).toNatClampNeg) ≤ nI p - nI p / 4 * 4 → post 0) ∧ (¬ nI (C (nI p / 4).toNatClampNeg) ≤ nI p - nI p / 4 * 4 → post 1))
  rw [e2, e1, nI_clamp (by omega)]
  exact ⟨by decide, by decide, vp_in_nI (by omega) (by decide), pk_le (C (p / 4)) (p % 4) (fun z => h0 (Nat.not_lt.mpr z)) (fun z => h1 z) rfl rfl (by omega) (by omega)⟩
theorem wn_findXL {a : Nat} (hC : ∀ m, C m ≤ 4) (hI : ∀ p, I p < 2048) (ha : a < 2048) : ∀ d j, j + d = 16 →
    (∀ q, j ≤ q → q < 16 → wn_tk C q → I q = a → post (nI q)) → ((∀ q, j ≤ q → q < 16 → wn_tk C q → I q ≠ a) → post (-2)) →
    wX_placeOfWaiting_2 post (nI a) xt xs xe xw xq xi xg xb xc (fun z => nI (I z)) al ad (fun z => nI (C z)) bf bd bc mi fm fv fo es er (d + 1) (nI j) := by
  intro d
  induction d with
  | zero =>
    intro j hj _ h2
    exact br_t (show (16 : Int32) ≤ nI j from nI_le (a := 16) (by omega) (by omega)) (h2 (fun q h3 h4 => by omega))
  | succ d ih =>
    intro j hj h1 h2
    have step : (wn_tk C j → I j ≠ a) → wX_placeOfWaiting_2 post (nI a) xt xs xe xw xq xi xg xb xc (fun z => nI (I z)) al ad (fun z => nI (C z)) bf bd bc mi fm fv fo es er (d + 1) (nI (j + 1)) := fun hn =>
      ih (j + 1) (by omega) (fun q h3 => h1 q (by omega)) (fun h3 => h2 (fun q h4 h5 h6 => by
        by_cases e : q = j
        · subst e
          exact hn h6
        · exact h3 q (by omega) h5 h6))
    refine br_f (show ¬ (16 : Int32) ≤ nI j from nI_ge (b := 16) (by omega) (by decide)) (wn_takenX hC (by omega) (fun ht => ?_) (fun hn => ?_))
    · refine br_f (by decide) ⟨vp_in_nI (by omega) (by decide), ?_⟩
      have hi := hI j
      exact pk_eq (I j) a (fun e => h1 j (Nat.le_refl j) (by omega) ht e) (fun e => nm_r (nI_1 j) (step (fun _ => e))) (wn_at I (by omega)) rfl (by omega) (by omega)
    · exact br_t rfl (nm_r (nI_1 j) (step (fun z => absurd z hn)))
theorem wn_findX {a : Nat} (hC : ∀ m, C m ≤ 4) (hI : ∀ p, I p < 2048) (ha : a < 2048) (h1 : ∀ q, q < 16 → wn_tk C q → I q = a → post (nI q)) (h2 : (∀ q, q < 16 → wn_tk C q → I q ≠ a) → post (-2)) :
    wpX_placeOfWaiting post (xt, xs, xe, xw, xq, xi, xg, xb, xc, (fun z => nI (I z)), al, ad, (fun z => nI (C z)), bf, bd, bc, mi, fm, fv, fo, es, er) (nI a) := by
  unfold wpX_placeOfWaiting
  exact ⟨17, wn_findXL hC hI ha 16 0 (by omega) (fun q _ => h1 q) (fun h => h2 (fun q => h q (by omega)))⟩
end
section
variable {yt ys ye yp yr yf yg yl yu yi yo ya yn yk : Int32} {on ma va se re ms ww wh bn bh : Nat → Int32} {wt bx : Nat → Int64}
variable {I L C : Nat → Nat} {post : Int32 → Prop}
theorem wn_h16 {i l : Nat} (hi : i < 2048) (hl : l ≤ 8) : nI (16 * i + l) / 16 = nI i ∧ nI (16 * i + l) - nI (16 * i + l) / 16 * 16 = nI l := by
  have e1 := pk_div (a := 16 * i + l) (d := 16) (by omega) (by decide) (by decide)
  have e2 := pk_rem (a := 16 * i + l) (d := 16) (by omega) (by decide) (by decide)
  exact ⟨e1.trans (congrArg nI (by omega)), e2.trans (congrArg nI (by omega))⟩
theorem wn_findYL {a : Nat} (hC : ∀ m, C m ≤ 4) (hI : ∀ p, I p < 2048) (hL : ∀ p, L p ≤ 8) (ha : a < 2048) : ∀ d j, j + d = 16 →
    (∀ q, j ≤ q → q < 16 → wn_tk C q → I q = a → post (nI q)) → ((∀ q, j ≤ q → q < 16 → wn_tk C q → I q ≠ a) → post (-1)) →
    wY_find_2 post (nI a) yt ys ye yp yr yf yg yl yu yi yo ya yn yk on ma va se re ms (fun z => nI (C z)) (fun z => nI (16 * I z + L z)) wt bn bh bx (d + 1) (nI j) := by
  intro d
  induction d with
  | zero =>
    intro j hj _ h2
    exact br_t (show (16 : Int32) ≤ nI j from nI_le (a := 16) (by omega) (by omega)) (h2 (fun q h3 h4 => by omega))
  | succ d ih =>
    intro j hj h1 h2
    have step : (wn_tk C j → I j ≠ a) → wY_find_2 post (nI a) yt ys ye yp yr yf yg yl yu yi yo ya yn yk on ma va se re ms (fun z => nI (C z)) (fun z => nI (16 * I z + L z)) wt bn bh bx (d + 1) (nI (j + 1)) := fun hn =>
      ih (j + 1) (by omega) (fun q h3 => h1 q (by omega)) (fun h3 => h2 (fun q h4 h5 h6 => by
        by_cases e : q = j
        · subst e
          exact hn h6
        · exact h3 q (by omega) h5 h6))
    obtain ⟨e1, e2⟩ := wn_q j (by omega)
    have hc := hC (j / 4)
    have hi := hI j
    have ec : nI (C (nI j / 4).toNatClampNeg) = nI (C (j / 4)) := by rw [e1, nI_clamp (by omega)]
    have eh : nI (16 * I (nI j).toNatClampNeg + L (nI j).toNatClampNeg) / 16 = nI (I j) := by rw [nI_clamp (by omega)]; exact (wn_h16 (hI j) (hL j)).1
    refine br_f (show ¬ (16 : Int32) ≤ nI j from nI_ge (b := 16) (by omega) (by decide)) ⟨by decide, by decide, pk_in (j / 4) 4 (by omega) e1, ?_⟩
    refine pk_le (C (j / 4)) (j % 4) (fun z => nm_r (nI_1 j) (step (fun y => absurd y (Nat.not_lt.mpr z)))) (fun z => ⟨vp_in_nI (by omega) (by decide), by decide, ?_⟩) ec e2 (by omega) (by omega)
    exact pk_eq (I j) a (fun e => h1 j (Nat.le_refl j) (by omega) z e) (fun e => nm_r (nI_1 j) (step (fun _ => e))) eh rfl (by omega) (by omega)
theorem wn_findY {a : Nat} (hC : ∀ m, C m ≤ 4) (hI : ∀ p, I p < 2048) (hL : ∀ p, L p ≤ 8) (ha : a < 2048) (h1 : ∀ q, q < 16 → wn_tk C q → I q = a → post (nI q)) (h2 : (∀ q, q < 16 → wn_tk C q → I q ≠ a) → post (-1)) :
    wpY_find post (yt, ys, ye, yp, yr, yf, yg, yl, yu, yi, yo, ya, yn, yk, on, ma, va, se, re, ms, (fun z => nI (C z)), (fun z => nI (16 * I z + L z)), wt, bn, bh, bx) (nI a) := by
  unfold wpY_find
  exact ⟨17, wn_findYL hC hI hL ha 16 0 (by omega) (fun q _ => h1 q) (fun h => h2 (fun q => h q (by omega)))⟩
end
/-- the places k .. e - 1 hold what stood one behind them -/
def wn_shf {α : Type} (k e : Nat) (f : Nat → α) : Nat → α := fun p => if k ≤ p ∧ p < e then f (p + 1) else f p
theorem wn_shf_0 {α : Type} (k : Nat) (f : Nat → α) : wn_shf k k f = f := by
  funext p
  exact if_neg (by omega)
theorem wn_shf_in {α : Type} {k e p : Nat} {f : Nat → α} (h1 : k ≤ p) (h2 : p < e) : wn_shf k e f p = f (p + 1) := if_pos ⟨h1, h2⟩
theorem wn_shf_out {α : Type} {k e p : Nat} {f : Nat → α} (h : p < k ∨ e ≤ p) : wn_shf k e f p = f p := if_neg (by omega)
theorem wn_shf_u {k j : Nat} {f : Nat → Int32} (hk : k ≤ j) : upd (wn_shf k j f) j (wn_shf k j f (j + 1)) = wn_shf k (j + 1) f := by
  funext p
  by_cases e : p = j
  · subst e
    rw [pk_us, wn_shf_out (by omega), wn_shf_in hk (by omega)]
  · rw [pk_un e]
    by_cases h : k ≤ p ∧ p < j
    · rw [wn_shf_in h.1 h.2, wn_shf_in h.1 (by omega)]
    · rw [wn_shf_out (by omega), wn_shf_out (by omega)]
theorem wn_shf_uL {k j : Nat} {f : Nat → Int64} (hk : k ≤ j) : vp_updL (wn_shf k j f) j (wn_shf k j f (j + 1)) = wn_shf k (j + 1) f := by
  funext p
  by_cases e : p = j
  · subst e
    rw [pk_uLs, wn_shf_out (by omega), wn_shf_in hk (by omega)]
  · rw [pk_uLn e]
    by_cases h : k ≤ p ∧ p < j
    · rw [wn_shf_in h.1 h.2, wn_shf_in h.1 (by omega)]
    · rw [wn_shf_out (by omega), wn_shf_out (by omega)]
theorem wn_rs {k j : Nat} {f : Nat → Int32} (hk : k ≤ j) (hj : j < 100) : upd (wn_shf k j f) (nI j).toNatClampNeg (wn_shf k j f (nI j + 1).toNatClampNeg) = wn_shf k (j + 1) f := by
  rw [nI_1, nI_clamp (by omega), nI_clamp (by omega)]
  exact wn_shf_u hk
theorem wn_rsL {k j : Nat} {f : Nat → Int64} (hk : k ≤ j) (hj : j < 100) : vp_updL (wn_shf k j f) (nI j).toNatClampNeg (wn_shf k j f (nI j + 1).toNatClampNeg) = wn_shf k (j + 1) f := by
  rw [nI_1, nI_clamp (by omega), nI_clamp (by omega)]
  exact wn_shf_uL hk
theorem wn_shf_nI (k e : Nat) (f : Nat → Nat) : wn_shf k e (fun z => nI (f z)) = fun z => nI (wn_shf k e f z) := by
  funext p
  by_cases h : k ≤ p ∧ p < e
  · rw [wn_shf_in h.1 h.2, wn_shf_in h.1 h.2]
  · rw [wn_shf_out (by omega), wn_shf_out (by omega)]
theorem wn_shf_h (k e : Nat) (f g : Nat → Nat) : wn_shf k e (fun z => nI (16 * f z + g z)) = fun z => nI (16 * wn_shf k e f z + wn_shf k e g z) := by
  funext p
  by_cases h : k ≤ p ∧ p < e
  · rw [wn_shf_in h.1 h.2, wn_shf_in h.1 h.2, wn_shf_in h.1 h.2]
  · rw [wn_shf_out (by omega), wn_shf_out (by omega), wn_shf_out (by omega)]
/-- one less in the counts -/
def wn_C1 (C : Nat → Nat) (m : Nat) : Nat → Nat := wn_set C m (C m - 1)
def wn_end (C : Nat → Nat) (k : Nat) : Nat := 4 * (k / 4) + (C (k / 4) - 1)
theorem wn_cnt {C : Nat → Nat} {m : Nat} (hm : m < 100) (h : 1 ≤ C m) : upd (fun z => nI (C z)) (nI m).toNatClampNeg (nI (C (nI m).toNatClampNeg) - 1) = fun z => nI (wn_C1 C m z) := by
  rw [nI_clamp (by omega), show nI (C m) - 1 = nI (C m - 1) from pk_sub (b := 1) h]
  exact wn_upd C m _
section
variable {xt xs xe xw xq xi xg xb xc : Int32} {ai al ac bf bc mi fm fv fo es er : Nat → Int32} {ad bd : Nat → Int64}
variable {post : SX → Prop}
theorem wn_rmXL {k e : Nat} (he : e < 16) (h : post (xt, xs, xe, xw, xq, xi, xg, xb, xc, wn_shf k e ai, wn_shf k e al, wn_shf k e ad, ac, bf, bd, bc, mi, fm, fv, fo, es, er)) : ∀ d j, j + d = e → k ≤ j →
    wX_removeWaiting_28 post (nI e) xt xs xe xw xq xi xg xb xc (d + 1) (nI j) (wn_shf k j ai) (wn_shf k j al) (wn_shf k j ad) ac bf bd bc mi fm fv fo es er := by
  intro d
  induction d with
  | zero =>
    intro j hj hk
    have e1 : j = e := by omega
    subst e1
    exact br_t (nI_le (Nat.le_refl _) (by omega)) h
  | succ d ih =>
    intro j hj hk
    have v1 : vp_in (nI j + 1) 16 := pk_in (j + 1) 16 (by omega) (nI_1 j)
    have v0 : vp_in (nI j) 16 := vp_in_nI (by omega) (by decide)
    exact br_f (nI_ge (by omega) (by omega)) ⟨v1, v0, nm_r (wn_rs hk (by omega)) ⟨v1, v0, nm_r (wn_rs hk (by omega)) ⟨v1, v0, nm_r (wn_rsL hk (by omega)) (nm_r (nI_1 j) (ih (j + 1) (by omega) (by omega)))⟩⟩⟩
theorem wn_rmX {C : Nat → Nat} {k : Nat} (hC : ∀ m, C m ≤ 4) (hk : k < 16) (ht : wn_tk C k)
    (h : post (xt, xs, xe, xw, xq, xi, xg, xb, xc, wn_shf k (wn_end C k) ai, wn_shf k (wn_end C k) al, wn_shf k (wn_end C k) ad, (fun z => nI (wn_C1 C (k / 4) z)), bf, bd, bc, mi, fm, fv, fo, es, er)) : wpX_removeWaiting post (xt, xs, xe, xw, xq, xi, xg, xb, xc, ai, al, ad, (fun z => nI (C z)), bf, bd, bc, mi, fm, fv, fo, es, er) (nI k) := by
  have hc := hC (k / 4)
  have ht' : k % 4 < C (k / 4) := ht
  have he : wn_end C k < 16 := by unfold wn_end; omega
  have hke : k ≤ wn_end C k := by unfold wn_end; omega
  have vm : vp_in (nI (k / 4)) 4 := vp_in_nI (by omega) (by decide)
  have e3 : nI (k / 4) * 4 + nI (wn_C1 C (k / 4) (nI (k / 4)).toNatClampNeg) = nI (wn_end C k) := by
    rw [nI_clamp (by omega), show wn_C1 C (k / 4) (k / 4) = C (k / 4) - 1 from wn_set_s]
    show nI (k / 4) * nI 4 + _ = _
    rw [pk_mul, nI_add]
    exact congrArg nI (by unfold wn_end; omega)
  have L := wn_rmXL (ac := fun z => nI (wn_C1 C (k / 4) z)) he h (wn_end C k - k) k (by omega) (Nat.le_refl k)
  simp only [wn_shf_0] at L
  unfold wpX_removeWaiting
  exact ⟨by decide, nm_r (wn_q k (by omega)).1 ⟨vm, vm, nm_r (wn_cnt (by omega) (by omega)) ⟨vm, nm_r e3 ⟨_, L⟩⟩⟩⟩
end
section
variable {yt ys ye yp yr yf yg yl yu yi yo ya yn yk : Int32} {on ma va se re ms ww wh bn bh : Nat → Int32} {wt bx : Nat → Int64}
variable {post : SY → Prop}
theorem wn_rmYL {C : Nat → Nat} {k e m : Nat} {x3 : Int32} (he : e < 16) (hm : m < 4) (hC : 4 * m + C m = e)
    (h : (x3 < 0 → post (yt, ys, ye, yp, yr, yf, yg, yl, yu, yi, yo, ya, yn, yk, on, ma, va, se, re, ms, (fun z => nI (C z)), wn_shf k e wh, wn_shf k e wt, bn, bh, bx)) ∧ (¬ x3 < 0 → wpY_find (fun r => post (yt, ys, ye, yp, yr, r, yg, yl, yu, yi, yo, ya, yn, yk, on, ma, va, se, re, ms, (fun z => nI (C z)), wn_shf k e wh, wn_shf k e wt, bn, bh, bx)) (yt, ys, ye, yp, yr, yf, yg, yl, yu, yi, yo, ya, yn, yk, on, ma, va, se, re, ms, (fun z => nI (C z)), wn_shf k e wh, wn_shf k e wt, bn, bh, bx) x3)) : ∀ d j, j + d = e → k ≤ j →
    wY_takeOut_42 post (nI m) x3 yt ys ye yp yr yf yg yl yu yi yo ya yn yk (d + 1) (nI j) on ma va se re ms (fun z => nI (C z)) (wn_shf k j wh) (wn_shf k j wt) bn bh bx := by
  have vm : vp_in (nI m) 4 := vp_in_nI hm (by decide)
  have e3 : 4 * nI m + nI (C (nI m).toNatClampNeg) = nI e := by
    rw [nI_clamp (by omega)]
    show nI 4 * nI m + _ = _
    rw [pk_mul, nI_add, hC]
  intro d
  induction d with
  | zero =>
    intro j hj hk
    have e1 : j = e := by omega
    subst e1
    exact ⟨vm, pk_le j j (fun _ => h) (fun z => by omega) e3 rfl (by omega) (by omega)⟩
  | succ d ih =>
    intro j hj hk
    have v1 : vp_in (nI j + 1) 16 := pk_in (j + 1) 16 (by omega) (nI_1 j)
    have v0 : vp_in (nI j) 16 := vp_in_nI (by omega) (by decide)
    exact ⟨vm, pk_le e j (fun z => by omega) (fun _ => ⟨v1, v0, nm_r (wn_rs hk (by omega)) ⟨v1, v0, nm_r (wn_rsL hk (by omega)) (nm_r (nI_1 j) (ih (j + 1) (by omega) (by omega)))⟩⟩) e3 rfl (by omega) (by omega)⟩
theorem wn_rmY28 {C : Nat → Nat} {k : Nat} {z0 : Int32} (hC : ∀ m, C m ≤ 4) (hk : k < 16) (ht : wn_tk C k)
    (h : (z0 < 0 → post (yt, ys, ye, yp, yr, yf, yg, yl, yu, yi, yo, ya, yn, yk, on, ma, va, se, re, ms, (fun z => nI (wn_C1 C (k / 4) z)), wn_shf k (wn_end C k) wh, wn_shf k (wn_end C k) wt, bn, bh, bx)) ∧ (¬ z0 < 0 → wpY_find (fun r => post (yt, ys, ye, yp, yr, r, yg, yl, yu, yi, yo, ya, yn, yk, on, ma, va, se, re, ms, (fun z => nI (wn_C1 C (k / 4) z)), wn_shf k (wn_end C k) wh, wn_shf k (wn_end C k) wt, bn, bh, bx)) (yt, ys, ye, yp, yr, yf, yg, yl, yu, yi, yo, ya, yn, yk, on, ma, va, se, re, ms, (fun z => nI (wn_C1 C (k / 4) z)), wn_shf k (wn_end C k) wh, wn_shf k (wn_end C k) wt, bn, bh, bx) z0)) :
    wY_takeOut_28 post (nI k) (nI (k / 4)) z0 yt ys ye yp yr yf yg yl yu yi yo ya yn yk on ma va se re ms (fun z => nI (C z)) wh wt bn bh bx := by
  have hc := hC (k / 4)
  have ht' : k % 4 < C (k / 4) := ht
  have he : wn_end C k < 16 := by unfold wn_end; omega
  have hke : k ≤ wn_end C k := by unfold wn_end; omega
  have vm : vp_in (nI (k / 4)) 4 := vp_in_nI (by omega) (by decide)
  have hCm : 4 * (k / 4) + wn_C1 C (k / 4) (k / 4) = wn_end C k := by
    rw [show wn_C1 C (k / 4) (k / 4) = C (k / 4) - 1 from wn_set_s]
    rfl
  have L := wn_rmYL he (show k / 4 < 4 by omega) hCm h (wn_end C k - k) k (by omega) (Nat.le_refl k)
  simp only [wn_shf_0] at L
  unfold wY_takeOut_28
  exact ⟨vm, vm, nm_r (wn_cnt (by omega) (by omega)) ⟨_, L⟩⟩
theorem wn_rmY {C : Nat → Nat} {k : Nat} (hC : ∀ m, C m ≤ 4) (hk : k < 16) (ht : wn_tk C k) (hp : ¬ yp = 1)
    (h : post (yt, ys, ye, yp, yr, yf, yg, yl, yu, yi, yo, ya, yn, yk, on, ma, va, se, re, ms, (fun z => nI (wn_C1 C (k / 4) z)), wn_shf k (wn_end C k) wh, wn_shf k (wn_end C k) wt, bn, bh, bx)) : wpY_takeOut post (yt, ys, ye, yp, yr, yf, yg, yl, yu, yi, yo, ya, yn, yk, on, ma, va, se, re, ms, (fun z => nI (C z)), wh, wt, bn, bh, bx) (nI k) := by
  unfold wpY_takeOut
  exact ⟨by decide, nm_r (wn_q k (by omega)).1 (br_f hp (wn_rmY28 hC hk ht (br_t wn_neg h)))⟩
end
/-- where what stands at p' after the taking out of k stood before, and where what stood at p stands then -/
theorem wn_src {C : Nat → Nat} {k p : Nat} (hC : ∀ m, C m ≤ 4) (hk : k < 16) (ht : wn_tk C k) (hp : p < 16) (h : wn_tk (wn_C1 C (k / 4)) p) :
    ∃ q, q < 16 ∧ wn_tk C q ∧ q ≠ k ∧ (∀ f : Nat → Nat, wn_shf k (wn_end C k) f p = f q) ∧ ((q = p ∧ (p < k ∨ p / 4 ≠ k / 4)) ∨ (q = p + 1 ∧ k ≤ p ∧ p < 4 * (k / 4) + 3)) := by
  have hc := hC (k / 4)
  have ht' : k % 4 < C (k / 4) := ht
  have h' : p % 4 < wn_C1 C (k / 4) (p / 4) := h
  have ee : wn_end C k = 4 * (k / 4) + (C (k / 4) - 1) := rfl
  by_cases hn : p / 4 = k / 4
  · have hs : wn_C1 C (k / 4) (p / 4) = C (k / 4) - 1 := by rw [hn]; exact wn_set_s
    rw [hs] at h'
    by_cases hkp : k ≤ p
    · have e1 : (p + 1) / 4 = k / 4 := by omega
      refine ⟨p + 1, by omega, ?_, by omega, fun f => wn_shf_in hkp (by omega), Or.inr ⟨rfl, hkp, by omega⟩⟩
      show (p + 1) % 4 < C ((p + 1) / 4)
      rw [e1]
      omega
    · refine ⟨p, hp, ?_, by omega, fun f => wn_shf_out (by omega), Or.inl ⟨rfl, by omega⟩⟩
      show p % 4 < C (p / 4)
      rw [hn]
      omega
  · have hs : wn_C1 C (k / 4) (p / 4) = C (p / 4) := wn_set_n hn
    rw [hs] at h'
    have ho : p < k ∨ wn_end C k ≤ p := by omega
    exact ⟨p, hp, h', fun z => hn (by rw [z]), fun f => wn_shf_out ho, Or.inl ⟨rfl, Or.inr hn⟩⟩
theorem wn_dst {C : Nat → Nat} {k q : Nat} (hC : ∀ m, C m ≤ 4) (hk : k < 16) (ht : wn_tk C k) (hq : q < 16) (h : wn_tk C q) (hne : q ≠ k) :
    ∃ p, p < 16 ∧ wn_tk (wn_C1 C (k / 4)) p ∧ (∀ f : Nat → Nat, wn_shf k (wn_end C k) f p = f q) := by
  have hc := hC (k / 4)
  have ht' : k % 4 < C (k / 4) := ht
  have h' : q % 4 < C (q / 4) := h
  have ee : wn_end C k = 4 * (k / 4) + (C (k / 4) - 1) := rfl
  by_cases hn : q / 4 = k / 4
  · rw [hn] at h'
    by_cases hkq : k < q
    · have e1 : (q - 1) / 4 = k / 4 := by omega
      refine ⟨q - 1, by omega, ?_, fun f => ?_⟩
      · show (q - 1) % 4 < wn_C1 C (k / 4) ((q - 1) / 4)
        rw [e1, show wn_C1 C (k / 4) (k / 4) = C (k / 4) - 1 from wn_set_s]
        omega
      · rw [wn_shf_in (by omega) (by omega)]
        exact congrArg f (by omega)
    · refine ⟨q, hq, ?_, fun f => wn_shf_out (by omega)⟩
      show q % 4 < wn_C1 C (k / 4) (q / 4)
      rw [hn, show wn_C1 C (k / 4) (k / 4) = C (k / 4) - 1 from wn_set_s]
      omega
  · refine ⟨q, hq, ?_, fun f => wn_shf_out (by omega)⟩
    show q % 4 < wn_C1 C (k / 4) (q / 4)
    rw [show wn_C1 C (k / 4) (q / 4) = C (q / 4) from wn_set_n hn]
    exact h'
theorem wn_dis_rm {I C : Nat → Nat} {k : Nat} (hC : ∀ m, C m ≤ 4) (hk : k < 16) (ht : wn_tk C k) (hd : wn_dis I C) : wn_dis (wn_shf k (wn_end C k) I) (wn_C1 C (k / 4)) := by
  intro p q hp hq tp tq e
  obtain ⟨p1, a1, a2, a3, a4, a5⟩ := wn_src hC hk ht hp tp
  obtain ⟨q1, b1, b2, b3, b4, b5⟩ := wn_src hC hk ht hq tq
  rw [a4 I, b4 I] at e
  have := hd p1 q1 a1 b1 a2 b2 e
  omega
theorem wn_C1_le {C : Nat → Nat} {m : Nat} (hC : ∀ i, C i ≤ 4) : ∀ i, wn_C1 C m i ≤ 4 := by
  intro i
  by_cases e : i = m
  · subst e
    rw [show wn_C1 C i i = C i - 1 from wn_set_s]
    have := hC i
    omega
  · rw [show wn_C1 C m i = C i from wn_set_n e]
    exact hC i
theorem wn_shf_lt {k e b : Nat} {f : Nat → Nat} (h : ∀ p, f p < b) : ∀ p, wn_shf k e f p < b := by
  intro p
  unfold wn_shf
  split
  · exact h _
  · exact h _
theorem wn_shf_le {k e b : Nat} {f : Nat → Nat} (h : ∀ p, f p ≤ b) : ∀ p, wn_shf k e f p ≤ b := by
  intro p
  unfold wn_shf
  split
  · exact h _
  · exact h _
section
variable {xt xs xe xw xq xi xg xb xc : Int32} {ai al ac bf bc mi fm fv fo es er : Nat → Int32} {ad bd : Nat → Int64}
variable {I L C B S E : Nat → Nat} {post : SX → Prop}
theorem wn_rmXP {k : Nat} (hC : ∀ m, C m ≤ 4) (hk : k < 16) (ht : wn_tk C k)
    (h : post (xt, xs, xe, xw, xq, xi, xg, xb, xc, (fun z => nI ((wn_shf k (wn_end C k) I) z)), (fun z => nI ((wn_shf k (wn_end C k) L) z)), wn_shf k (wn_end C k) ad, (fun z => nI ((wn_C1 C (k / 4)) z)), bf, bd, (fun z => nI (B z)), mi, fm, fv, fo, (fun z => nI (S z)), (fun z => nI (E z)))) : wpX_removeWaiting post (xt, xs, xe, xw, xq, xi, xg, xb, xc, (fun z => nI (I z)), (fun z => nI (L z)), ad, (fun z => nI (C z)), bf, bd, (fun z => nI (B z)), mi, fm, fv, fo, (fun z => nI (S z)), (fun z => nI (E z))) (nI k) := by
  refine wn_rmX hC hk ht ?_
  rw [wn_shf_nI, wn_shf_nI]
  exact h
end
/-! the most urgent frame: both scans in step -/
def wn_ox : Option Nat → Int32
  | none => -2
  | some b => nI b
def wn_oy : Option Nat → Int32
  | none => -1
  | some b => nI b
theorem wn_ne2 {q : Nat} (hq : q < 2 ^ 31) : ¬ nI q = -2 := fun e => nI_pos hq (by rw [e]; decide)
section
variable {xt xs xe xw xq xi xg xb xc : Int32} {ai al ac bf bc mi fm fv fo es er : Nat → Int32} {ad bd : Nat → Int64}
variable {yt ys ye yp yr yf yg yl yu yi yo ya yn yk : Int32} {on ma va se re ms ww wh bn bh : Nat → Int32} {wt bx : Nat → Int64}
variable {I L C : Nat → Nat}
theorem wn_most (hI : ∀ p, I p < 2048) (hL : ∀ p, L p ≤ 8) (hC : ∀ m, C m ≤ 4) (hd : wn_dis I C) (hO : ∀ m, m < 4 → (fo m = 0 ∧ on m = 1) ∨ (fo m = 1 ∧ on m = 0)) :
    ∀ d j, j + d = 16 → ∀ o : Option Nat, (∀ b, o = some b → b < j ∧ wn_tk C b) → ∃ o' : Option Nat, (∀ b, o' = some b → b < 16 ∧ wn_tk C b) ∧
      (∀ post : Int32 → Prop, post (wn_ox o') → wX_placeOfMostUrgent_5 post xt xs xe xw xq xi xg xb xc (fun z => nI (I z)) al ad (fun z => nI (C z)) bf bd bc mi fm fv fo es er (d + 1) (wn_ox o) (nI j)) ∧
      (∀ post : Int32 → Prop, post (wn_oy o') → wY_mostUrgent_4 post yt ys ye yp yr yf yg yl yu yi yo ya yn yk on ma va se re ms (fun z => nI (C z)) (fun z => nI (16 * I z + L z)) wt bn bh bx (d + 1) (wn_oy o) (nI j)) := by
  intro d
  induction d with
  | zero =>
    intro j hj o ho
    have h16 : (16 : Int32) ≤ nI j := nI_le (a := 16) (by omega) (by omega)
    exact ⟨o, fun b hb => ⟨by have := (ho b hb).1; omega, (ho b hb).2⟩, fun post hp => br_t h16 hp, fun post hp => br_t h16 hp⟩
  | succ d ih =>
    intro j hj o ho
    obtain ⟨e1, e2⟩ := wn_q j (by omega)
    have hc := hC (j / 4)
    have n16 : ¬ (16 : Int32) ≤ nI j := nI_ge (b := 16) (by omega) (by decide)
    have vj : vp_in (nI j) 16 := vp_in_nI (by omega) (by decide)
    have vq : vp_in (nI j / 4) 4 := pk_in (j / 4) 4 (by omega) e1
    have ec : nI (C (nI j / 4).toNatClampNeg) = nI (C (j / 4)) := by rw [e1, nI_clamp (by omega)]
    have ef : fo (nI j / 4).toNatClampNeg = fo (j / 4) := by rw [e1, nI_clamp (by omega)]
    have eo : on (nI j / 4).toNatClampNeg = on (j / 4) := by rw [e1, nI_clamp (by omega)]
    have up : ∀ b, o = some b → b < j + 1 ∧ wn_tk C b := fun b hb => ⟨by have := (ho b hb).1; omega, (ho b hb).2⟩
    by_cases ht : wn_tk C j
    · have htc : ¬ nI (C (nI j / 4).toNatClampNeg) ≤ nI j - nI j / 4 * 4 := by rw [ec, e2]; exact nI_ge ht (by omega)
      rcases hO (j / 4) (by omega) with ⟨hf, hn⟩ | ⟨hf, hn⟩
      · have hf0 : fo (nI j / 4).toNatClampNeg = 0 := ef.trans hf
        have hn0 : ¬ on (nI j / 4).toNatClampNeg = 0 := by rw [eo, hn]; decide
        match o, ho, up with
        | none, ho, up =>
          obtain ⟨o', h1, hX, hY⟩ := ih (j + 1) (by omega) (some j) (fun b hb => by cases hb; exact ⟨by omega, ht⟩)
          refine ⟨o', h1, fun post hp => br_f n16 (wn_takenX hC (by omega) (fun _ => ?_) (fun z => absurd ht z)), fun post hp => br_f n16 ⟨by decide, vq, br_f hn0 ⟨by decide, by decide, vq, br_f htc ?_⟩⟩⟩
          · exact br_f (by decide) ⟨by decide, vq, br_t hf0 (br_t rfl (nm_r (nI_1 j) (hX post hp)))⟩
          · exact br_f (by decide) (br_t wn_neg (nm_r (nI_1 j) (hY post hp)))
        | some b, ho, up =>
          obtain ⟨hbj, hbt⟩ := ho b rfl
          have vb : vp_in (nI b) 16 := vp_in_nI (by omega) (by decide)
          have hne : I b ≠ I j := fun z => by have := hd b j (by omega) (by omega) hbt ht z; omega
          have hb0 := hI b
          have hj0 := hI j
          have lb := hL b
          have lj := hL j
          by_cases hlt : I b ≤ I j
          · obtain ⟨o', h1, hX, hY⟩ := ih (j + 1) (by omega) (some b) (fun c hb => up c hb)
            refine ⟨o', h1, fun post hp => br_f n16 (wn_takenX hC (by omega) (fun _ => ?_) (fun z => absurd ht z)), fun post hp => br_f n16 ⟨by decide, vq, br_f hn0 ⟨by decide, by decide, vq, br_f htc ?_⟩⟩⟩
            · refine br_f (by decide) ⟨by decide, vq, br_t hf0 (br_f (wn_ne2 (by omega)) ⟨vj, vb, br_t ?_ (nm_r (nI_1 j) (hX post hp))⟩)⟩
              show nI (I (nI b).toNatClampNeg) ≤ nI (I (nI j).toNatClampNeg)
              rw [nI_clamp (by omega), nI_clamp (by omega)]
              exact nI_le hlt (by omega)
            · refine br_f (by decide) (br_f (nI_pos (by omega)) ⟨vj, vb, br_t ?_ (nm_r (nI_1 j) (hY post hp))⟩)
              show nI (16 * I (nI b).toNatClampNeg + L (nI b).toNatClampNeg) ≤ nI (16 * I (nI j).toNatClampNeg + L (nI j).toNatClampNeg)
              rw [nI_clamp (by omega), nI_clamp (by omega)]
              exact nI_le (by omega) (by omega)
          · obtain ⟨o', h1, hX, hY⟩ := ih (j + 1) (by omega) (some j) (fun c hb => by cases hb; exact ⟨by omega, ht⟩)
            refine ⟨o', h1, fun post hp => br_f n16 (wn_takenX hC (by omega) (fun _ => ?_) (fun z => absurd ht z)), fun post hp => br_f n16 ⟨by decide, vq, br_f hn0 ⟨by decide, by decide, vq, br_f htc ?_⟩⟩⟩
            · refine br_f (by decide) ⟨by decide, vq, br_t hf0 (br_f (wn_ne2 (by omega)) ⟨vj, vb, br_f ?_ (nm_r (nI_1 j) (hX post hp))⟩)⟩
              show ¬ nI (I (nI b).toNatClampNeg) ≤ nI (I (nI j).toNatClampNeg)
              rw [nI_clamp (by omega), nI_clamp (by omega)]
              exact nI_ge (by omega) (by omega)
            · refine br_f (by decide) (br_f (nI_pos (by omega)) ⟨vj, vb, br_f ?_ (nm_r (nI_1 j) (hY post hp))⟩)
              show ¬ nI (16 * I (nI b).toNatClampNeg + L (nI b).toNatClampNeg) ≤ nI (16 * I (nI j).toNatClampNeg + L (nI j).toNatClampNeg)
              rw [nI_clamp (by omega), nI_clamp (by omega)]
              exact nI_ge (by omega) (by omega)
      · have hf0 : ¬ fo (nI j / 4).toNatClampNeg = 0 := by rw [ef, hf]; decide
        have hn0 : on (nI j / 4).toNatClampNeg = 0 := eo.trans hn
        obtain ⟨o', h1, hX, hY⟩ := ih (j + 1) (by omega) o up
        refine ⟨o', h1, fun post hp => br_f n16 (wn_takenX hC (by omega) (fun _ => ?_) (fun z => absurd ht z)), fun post hp => br_f n16 ⟨by decide, vq, br_t hn0 ?_⟩⟩
        · exact br_f (by decide) ⟨by decide, vq, br_f hf0 (nm_r (nI_1 j) (hX post hp))⟩
        · exact br_t rfl (nm_r (nI_1 j) (hY post hp))
    · have htc : nI (C (nI j / 4).toNatClampNeg) ≤ nI j - nI j / 4 * 4 := by rw [ec, e2]; exact nI_le (Nat.not_lt.mp ht) (by omega)
      obtain ⟨o', h1, hX, hY⟩ := ih (j + 1) (by omega) o up
      refine ⟨o', h1, fun post hp => br_f n16 (wn_takenX hC (by omega) (fun z => absurd z ht) (fun _ => br_t rfl (nm_r (nI_1 j) (hX post hp)))), fun post hp => br_f n16 ⟨by decide, vq, br_c (fun _ => br_t rfl (nm_r (nI_1 j) (hY post hp))) (fun _ => ⟨by decide, by decide, vq, br_t htc (br_t rfl (nm_r (nI_1 j) (hY post hp)))⟩)⟩⟩
end
end
section
/-! the relation, and the node's and the id's tests -/
def wn_G (T D H : Nat) (I L C B S E : Nat → Nat) (fo on : Nat → Int32) : Prop :=
  (D ≤ 1000 ∧ (D = 0 → H ≤ T) ∧ (0 < D → H = T + D)) ∧ (∀ p, I p < 2048) ∧ (∀ p, L p ≤ 8) ∧ (∀ m, C m ≤ 4) ∧ (∀ m, B m ≤ 6) ∧ (∀ m, S m ≤ 8 * T) ∧ (∀ m, E m ≤ 255) ∧
  (∀ m, m < 4 → (fo m = 0 ∧ on m = 1) ∨ (fo m = 1 ∧ on m = 0)) ∧ wn_dis I C
/-- a frame is under way -/
def wn_sd (I C : Nat → Nat) (xi xg xb xc yf yg yl yu : Int32) : Prop :=
  ∃ p g b q, p < 16 ∧ wn_tk C p ∧ xi = nI (I p) ∧ yf = nI p ∧ xg = nI g ∧ yg = nI g ∧ xb = nI b ∧ yl = nI b ∧ xc = nI (q + 10) ∧ yu = nI q ∧ b ≤ 1000 ∧ 1 ≤ q ∧ q ≤ 1000 ∧ g ≤ q + 9
def wn_ph (I C : Nat → Nat) (xw xq xi xg xb xc yr yf yg yl yu : Int32) : Prop :=
  xw = 0 ∨ (xw = 1 ∧ wn_sd I C xi xg xb xc yf yg yl yu) ∨ ((xw = 2 ∨ xw = 3) ∧ ∃ r, 1 ≤ r ∧ r ≤ 14 ∧ xq = nI r ∧ yr = nI r)
def wn_R (T : Nat) (u : SX) (v : SY) : Prop :=
  ∃ (D H : Nat) (xs xw xq xi xg xb xc yr yf yg yl yu yi yo ya yn yk : Int32) (I L C B S E : Nat → Nat) (ad bd : Nat → Int64) (bf mi fm fv fo on : Nat → Int32),
    u = (nI T, xs, nI D, xw, xq, xi, xg, xb, xc, (fun z => nI (I z)), (fun z => nI (L z)), ad, (fun z => nI (C z)), bf, bd, (fun z => nI (B z)), mi, fm, fv, fo, (fun z => nI (S z)), (fun z => nI (E z))) ∧ v = (nI T, xs, nI H, xw, yr, yf, yg, yl, yu, yi, yo, ya, yn, yk, on, fm, fv, (fun z => nI (S z)), (fun z => nI (E z)), mi, (fun z => nI (C z)), (fun z => nI (16 * I z + L z)), ad, (fun z => nI (B z)), bf, bd) ∧ wn_G T D H I L C B S E fo on ∧ wn_ph I C xw xq xi xg xb xc yr yf yg yl yu
def i_Rel (k : Nat) (u : SX) (v : SY) : Prop := ∃ T, T ≤ 400 * k ∧ wn_R T u v
theorem i_up {k : Nat} {u : SX} {v : SY} (h : i_Rel k u v) : i_Rel (k + 5) u v := by
  obtain ⟨T, hT, h⟩ := h
  exact ⟨T, by omega, h⟩
section
variable {T D H : Nat} {xs xw xq xi xg xb xc yr yf yg yl yu yi yo ya yn yk : Int32} {I L C B S E : Nat → Nat} {ad bd : Nat → Int64} {bf mi fm fv fo on : Nat → Int32}
theorem wn_mk (G : wn_G T D H I L C B S E fo on) (P : wn_ph I C xw xq xi xg xb xc yr yf yg yl yu) : wn_R T (nI T, xs, nI D, xw, xq, xi, xg, xb, xc, (fun z => nI (I z)), (fun z => nI (L z)), ad, (fun z => nI (C z)), bf, bd, (fun z => nI (B z)), mi, fm, fv, fo, (fun z => nI (S z)), (fun z => nI (E z))) (nI T, xs, nI H, xw, yr, yf, yg, yl, yu, yi, yo, ya, yn, yk, on, fm, fv, (fun z => nI (S z)), (fun z => nI (E z)), mi, (fun z => nI (C z)), (fun z => nI (16 * I z + L z)), ad, (fun z => nI (B z)), bf, bd) :=
  ⟨D, H, xs, xw, xq, xi, xg, xb, xc, yr, yf, yg, yl, yu, yi, yo, ya, yn, yk, I, L, C, B, S, E, ad, bd, bf, mi, fm, fv, fo, on, rfl, rfl, G, P⟩
theorem wn_mk5 {k : Nat} (hT : T ≤ 400 * k) (G : wn_G T D H I L C B S E fo on) (P : wn_ph I C xw xq xi xg xb xc yr yf yg yl yu) : i_Rel (k + 5) (nI T, xs, nI D, xw, xq, xi, xg, xb, xc, (fun z => nI (I z)), (fun z => nI (L z)), ad, (fun z => nI (C z)), bf, bd, (fun z => nI (B z)), mi, fm, fv, fo, (fun z => nI (S z)), (fun z => nI (E z))) (nI T, xs, nI H, xw, yr, yf, yg, yl, yu, yi, yo, ya, yn, yk, on, fm, fv, (fun z => nI (S z)), (fun z => nI (E z)), mi, (fun z => nI (C z)), (fun z => nI (16 * I z + L z)), ad, (fun z => nI (B z)), bf, bd) :=
  ⟨T, by omega, wn_mk G P⟩
end
theorem wn_lit {a b : Nat} (h : a < b) (hb : b < 2 ^ 31) {x : Int32} (hx : nI b ≤ x) : ¬ x ≤ nI a := fun z => nI_ge h hb (Int32.le_trans hx z)
section
variable {yt ys ye yp yr yf yg yl yu yi yo ya yn yk : Int32} {on ma va se re ms ww wh bn bh : Nat → Int32} {wt bx : Nat → Int64}
variable {post : Int32 → Prop}
theorem wn_nodeXg {j : Nat} (hj : j < 4) (h : post 1) : wpX_isGoodNode post (nI j) := br_f (nI_pos (by omega)) (br_f (nI_ge (b := 4) hj (by decide)) h)
theorem wn_nodeXb {x : Int32} (hx : x < 0 ∨ nI 4 ≤ x) (h : post 0) : wpX_isGoodNode post x := br_c (fun _ => h) (fun z => br_t (hx.resolve_left z) h)
theorem wn_nodeYg {j : Nat} (hj : j < 4) (h : post 0) : wpY_badNode post (yt, ys, ye, yp, yr, yf, yg, yl, yu, yi, yo, ya, yn, yk, on, ma, va, se, re, ms, ww, wh, wt, bn, bh, bx) (nI j) := br_f (nI_pos (by omega)) (br_t (nI_le (b := 3) (by omega) (by decide)) h)
theorem wn_nodeYb {x : Int32} (hx : x < 0 ∨ nI 4 ≤ x) (h : post 1) : wpY_badNode post (yt, ys, ye, yp, yr, yf, yg, yl, yu, yi, yo, ya, yn, yk, on, ma, va, se, re, ms, ww, wh, wt, bn, bh, bx) x := br_c (fun _ => h) (fun z => br_f (wn_lit (a := 3) (by decide) (by decide) (hx.resolve_left z)) h)
theorem wn_idXg {j : Nat} (hj : j < 2048) (h : post 1) : wpX_isGoodId post (nI j) := br_f (nI_pos (by omega)) (br_f (nI_ge (b := 2048) hj (by decide)) h)
theorem wn_idXb {x : Int32} (hx : x < 0 ∨ nI 2048 ≤ x) (h : post 0) : wpX_isGoodId post x := br_c (fun _ => h) (fun z => br_t (hx.resolve_left z) h)
theorem wn_idYg {j : Nat} (hj : j < 2048) (h : post 0) : wpY_badId post (yt, ys, ye, yp, yr, yf, yg, yl, yu, yi, yo, ya, yn, yk, on, ma, va, se, re, ms, ww, wh, wt, bn, bh, bx) (nI j) := br_f (nI_pos (by omega)) (br_t (nI_le (b := 2047) (by omega) (by decide)) h)
theorem wn_idYb {x : Int32} (hx : x < 0 ∨ nI 2048 ≤ x) (h : post 1) : wpY_badId post (yt, ys, ye, yp, yr, yf, yg, yl, yu, yi, yo, ya, yn, yk, on, ma, va, se, re, ms, ww, wh, wt, bn, bh, bx) x := br_c (fun _ => h) (fun z => br_f (wn_lit (a := 2047) (by decide) (by decide) (hx.resolve_left z)) h)
theorem wn_lenXg {j : Nat} (hj : j ≤ 8) (h : post 1) : wpX_isGoodLength post (nI j) := br_f (nI_pos (by omega)) (br_f (nI_nlt (a := 8) hj (by decide)) h)
theorem wn_lenXb {x : Int32} (hx : x < 0 ∨ nI 9 ≤ x) (h : post 0) : wpX_isGoodLength post x := br_c (fun _ => h) (fun z => br_t (Int32.lt_of_lt_of_le (nI_lt (a := 8) (b := 9) (by decide) (by decide)) (hx.resolve_left z)) h)
end
theorem wn_ix (x : Int32) {n : Nat} (hn : n < 2 ^ 31) : (x < 0 ∨ nI n ≤ x) ∨ ∃ j : Nat, j < n ∧ x = nI j := by
  rcases pk_ix x hn with h | h | h
  · exact Or.inl (Or.inl h)
  · exact Or.inl (Or.inr h)
  · exact Or.inr h
end
section
/-! the questions, filter, restart, disturb -/
theorem i_vc_sendErrors {k : Nat} {u : SX} {v : SY} (I : i_Rel k u v) (hk : k + 5 ≤ 2560) (v1 : Int32) : wpX_sendErrors (fun r => wpY_sendErrors (fun r' => r' = r ∧ i_Rel (k + 5) u v) v v1) u v1 := by
  have J := i_up I
  obtain ⟨T, hT, D, H, xs, xw, xq, xi, xg, xb, xc, yr, yf, yg, yl, yu, yi, yo, ya, yn, yk, I, L, C, B, S, E, ad, bd, bf, mi, fm, fv, fo, on, rfl, rfl, G, P⟩ := I
  unfold wpX_sendErrors wpY_sendErrors
  rcases wn_ix v1 (n := 4) (by decide) with h | ⟨j, hj, rfl⟩
  · exact wn_nodeXb h (br_t rfl (wn_nodeYb h (br_f (by decide) ⟨rfl, J⟩)))
  · have vj : vp_in (nI j) 4 := vp_in_nI hj (by decide)
    exact wn_nodeXg hj (br_f (by decide) ⟨vj, wn_nodeYg hj (br_t rfl ⟨vj, rfl, J⟩)⟩)
theorem i_vc_receiveErrors {k : Nat} {u : SX} {v : SY} (I : i_Rel k u v) (hk : k + 5 ≤ 2560) (v1 : Int32) : wpX_receiveErrors (fun r => wpY_receiveErrors (fun r' => r' = r ∧ i_Rel (k + 5) u v) v v1) u v1 := by
  have J := i_up I
  obtain ⟨T, hT, D, H, xs, xw, xq, xi, xg, xb, xc, yr, yf, yg, yl, yu, yi, yo, ya, yn, yk, I, L, C, B, S, E, ad, bd, bf, mi, fm, fv, fo, on, rfl, rfl, G, P⟩ := I
  unfold wpX_receiveErrors wpY_receiveErrors
  rcases wn_ix v1 (n := 4) (by decide) with h | ⟨j, hj, rfl⟩
  · exact wn_nodeXb h (br_t rfl (wn_nodeYb h (br_f (by decide) ⟨rfl, J⟩)))
  · have vj : vp_in (nI j) 4 := vp_in_nI hj (by decide)
    exact wn_nodeXg hj (br_f (by decide) ⟨vj, wn_nodeYg hj (br_t rfl ⟨vj, rfl, J⟩)⟩)
theorem i_vc_waiting {k : Nat} {u : SX} {v : SY} (I : i_Rel k u v) (hk : k + 5 ≤ 2560) (v1 : Int32) : wpX_waiting (fun r => wpY_waiting (fun r' => r' = r ∧ i_Rel (k + 5) u v) v v1) u v1 := by
  have J := i_up I
  obtain ⟨T, hT, D, H, xs, xw, xq, xi, xg, xb, xc, yr, yf, yg, yl, yu, yi, yo, ya, yn, yk, I, L, C, B, S, E, ad, bd, bf, mi, fm, fv, fo, on, rfl, rfl, G, P⟩ := I
  unfold wpX_waiting wpY_waiting
  rcases wn_ix v1 (n := 4) (by decide) with h | ⟨j, hj, rfl⟩
  · exact wn_nodeXb h (br_t rfl (wn_nodeYb h (br_f (by decide) ⟨rfl, J⟩)))
  · have vj : vp_in (nI j) 4 := vp_in_nI hj (by decide)
    exact wn_nodeXg hj (br_f (by decide) ⟨vj, wn_nodeYg hj (br_t rfl ⟨vj, rfl, J⟩)⟩)
theorem i_vc_received {k : Nat} {u : SX} {v : SY} (I : i_Rel k u v) (hk : k + 5 ≤ 2560) (v1 : Int32) : wpX_received (fun r => wpY_received (fun r' => r' = r ∧ i_Rel (k + 5) u v) v v1) u v1 := by
  have J := i_up I
  obtain ⟨T, hT, D, H, xs, xw, xq, xi, xg, xb, xc, yr, yf, yg, yl, yu, yi, yo, ya, yn, yk, I, L, C, B, S, E, ad, bd, bf, mi, fm, fv, fo, on, rfl, rfl, G, P⟩ := I
  unfold wpX_received wpY_received
  rcases wn_ix v1 (n := 4) (by decide) with h | ⟨j, hj, rfl⟩
  · exact wn_nodeXb h (br_t rfl (wn_nodeYb h (br_f (by decide) ⟨rfl, J⟩)))
  · have vj : vp_in (nI j) 4 := vp_in_nI hj (by decide)
    exact wn_nodeXg hj (br_f (by decide) ⟨vj, wn_nodeYg hj (br_t rfl ⟨vj, rfl, J⟩)⟩)
theorem i_vc_missed {k : Nat} {u : SX} {v : SY} (I : i_Rel k u v) (hk : k + 5 ≤ 2560) (v1 : Int32) : wpX_missed (fun r => wpY_missed (fun r' => r' = r ∧ i_Rel (k + 5) u v) v v1) u v1 := by
  have J := i_up I
  obtain ⟨T, hT, D, H, xs, xw, xq, xi, xg, xb, xc, yr, yf, yg, yl, yu, yi, yo, ya, yn, yk, I, L, C, B, S, E, ad, bd, bf, mi, fm, fv, fo, on, rfl, rfl, G, P⟩ := I
  unfold wpX_missed wpY_missed
  rcases wn_ix v1 (n := 4) (by decide) with h | ⟨j, hj, rfl⟩
  · exact wn_nodeXb h (br_t rfl (wn_nodeYb h (br_f (by decide) ⟨rfl, J⟩)))
  · have vj : vp_in (nI j) 4 := vp_in_nI hj (by decide)
    exact wn_nodeXg hj (br_f (by decide) ⟨vj, wn_nodeYg hj (br_t rfl ⟨vj, rfl, J⟩)⟩)
theorem i_vc_isOn {k : Nat} {u : SX} {v : SY} (I : i_Rel k u v) (hk : k + 5 ≤ 2560) (v1 : Int32) : wpX_isOn (fun r => wpY_isOn (fun r' => r' = r ∧ i_Rel (k + 5) u v) v v1) u v1 := by
  have J := i_up I
  obtain ⟨T, hT, D, H, xs, xw, xq, xi, xg, xb, xc, yr, yf, yg, yl, yu, yi, yo, ya, yn, yk, I, L, C, B, S, E, ad, bd, bf, mi, fm, fv, fo, on, rfl, rfl, G, P⟩ := I
  obtain ⟨⟨g1, g2, g3⟩, hI, hL, hC, hB, hS, hE, hO, hd⟩ := G
  unfold wpX_isOn wpY_isOn
  rcases wn_ix v1 (n := 4) (by decide) with h | ⟨j, hj, rfl⟩
  · exact wn_nodeXb h (br_t rfl (wn_nodeYb h (br_f (by decide) ⟨rfl, J⟩)))
  · have vj : vp_in (nI j) 4 := vp_in_nI hj (by decide)
    have ec : (nI j).toNatClampNeg = j := nI_clamp (by omega)
    rcases hO j hj with ⟨h1, h2⟩ | ⟨h1, h2⟩
    · exact wn_nodeXg hj (br_f (by decide) ⟨vj, br_t (by rw [ec]; exact h1) (wn_nodeYg hj (br_t rfl ⟨vj, br_f (by rw [ec, h2]; decide) ⟨rfl, J⟩⟩))⟩)
    · exact wn_nodeXg hj (br_f (by decide) ⟨vj, br_f (by rw [ec, h1]; decide) (wn_nodeYg hj (br_t rfl ⟨vj, br_t (by rw [ec]; exact h2) ⟨rfl, J⟩⟩))⟩)
theorem i_vc_time {k : Nat} {u : SX} {v : SY} (I : i_Rel k u v) (hk : k + 5 ≤ 2560) : wpX_time (fun r => wpY_time (fun r' => r' = r ∧ i_Rel (k + 5) u v) v) u := by
  have J := i_up I
  obtain ⟨T, hT, D, H, xs, xw, xq, xi, xg, xb, xc, yr, yf, yg, yl, yu, yi, yo, ya, yn, yk, I, L, C, B, S, E, ad, bd, bf, mi, fm, fv, fo, on, rfl, rfl, G, P⟩ := I
  exact ⟨rfl, J⟩
theorem i_vc_wire {k : Nat} {u : SX} {v : SY} (I : i_Rel k u v) (hk : k + 5 ≤ 2560) : wpX_wire (fun r => wpY_wire (fun r' => r' = r ∧ i_Rel (k + 5) u v) v) u := by
  have J := i_up I
  obtain ⟨T, hT, D, H, xs, xw, xq, xi, xg, xb, xc, yr, yf, yg, yl, yu, yi, yo, ya, yn, yk, I, L, C, B, S, E, ad, bd, bf, mi, fm, fv, fo, on, rfl, rfl, G, P⟩ := I
  exact ⟨rfl, J⟩
theorem i_vc_sent {k : Nat} {u : SX} {v : SY} (I : i_Rel k u v) (hk : k + 5 ≤ 2560) : wpX_sent (fun r => wpY_sent (fun r' => r' = r ∧ i_Rel (k + 5) u v) v) u := by
  have J := i_up I
  obtain ⟨T, hT, D, H, xs, xw, xq, xi, xg, xb, xc, yr, yf, yg, yl, yu, yi, yo, ya, yn, yk, I, L, C, B, S, E, ad, bd, bf, mi, fm, fv, fo, on, rfl, rfl, G, P⟩ := I
  exact ⟨rfl, J⟩
theorem wn_not1 {x : Int32} (h : x = 0 ∨ x = 2 ∨ x = 3) : ¬ x = 1 := by
  rcases h with h | h | h <;> rw [h] <;> decide
theorem i_vc_underWay {k : Nat} {u : SX} {v : SY} (I : i_Rel k u v) (hk : k + 5 ≤ 2560) : wpX_underWay (fun r => wpY_underWay (fun r' => r' = r ∧ i_Rel (k + 5) u v) v) u := by
  have J := i_up I
  obtain ⟨T, hT, D, H, xs, xw, xq, xi, xg, xb, xc, yr, yf, yg, yl, yu, yi, yo, ya, yn, yk, I, L, C, B, S, E, ad, bd, bf, mi, fm, fv, fo, on, rfl, rfl, G, P⟩ := I
  obtain ⟨⟨g1, g2, g3⟩, hI, hL, hC, hB, hS, hE, hO, hd⟩ := G
  unfold wpX_underWay wpY_underWay
  rcases P with h | ⟨h, p, g, b, q, hp, ht, e1, e2, -⟩ | ⟨h, -⟩
  · have h1 : ¬ xw = 1 := wn_not1 (Or.inl h)
    exact br_f h1 (br_f h1 ⟨rfl, J⟩)
  · refine br_t h (br_t h ⟨?_, by decide, ?_, J⟩)
    · rw [e2]
      exact vp_in_nI hp (by decide)
    · rw [e1, e2]
      show nI (16 * I (nI p).toNatClampNeg + L (nI p).toNatClampNeg) / 16 = nI (I p)
      rw [nI_clamp (by omega)]
      exact (wn_h16 (hI p) (hL p)).1
  · have h1 : ¬ xw = 1 := wn_not1 (Or.inr h)
    exact br_f h1 (br_f h1 ⟨rfl, J⟩)
theorem i_vc_filter {k : Nat} {u : SX} {v : SY} (I : i_Rel k u v) (hk : k + 5 ≤ 2560) (v1 : Int32) (v2 : Int32) (v3 : Int32) : wpX_filter (fun r u' => wpY_filter (fun r' v' => r' = r ∧ i_Rel (k + 5) u' v') v v1 v2 v3) u v1 v2 v3 := by
  have J := i_up I
  obtain ⟨T, hT, D, H, xs, xw, xq, xi, xg, xb, xc, yr, yf, yg, yl, yu, yi, yo, ya, yn, yk, I, L, C, B, S, E, ad, bd, bf, mi, fm, fv, fo, on, rfl, rfl, G, P⟩ := I
  unfold wpX_filter wpY_filter
  rcases wn_ix v1 (n := 4) (by decide) with h | ⟨j, hj, rfl⟩
  · exact wn_nodeXb h (br_t rfl (wn_nodeYb h (br_f (by decide) ⟨rfl, J⟩)))
  refine wn_nodeXg hj (br_f (by decide) ?_)
  rcases wn_ix v2 (n := 2048) (by decide) with h | ⟨a, ha, rfl⟩
  · exact wn_idXb h (br_t rfl (wn_nodeYg hj (br_t rfl (wn_idYb h (br_f (by decide) ⟨rfl, J⟩)))))
  refine wn_idXg ha (br_f (by decide) ?_)
  rcases wn_ix v3 (n := 2048) (by decide) with h | ⟨b, hb, rfl⟩
  · exact wn_idXb h (br_t rfl (wn_nodeYg hj (br_t rfl (wn_idYg ha (br_t rfl (wn_idYb h (br_f (by decide) ⟨rfl, J⟩)))))))
  have vj : vp_in (nI j) 4 := vp_in_nI hj (by decide)
  refine wn_idXg hb (br_f (by decide) ⟨vj, nm_e ⟨vj, nm_e ?_⟩⟩)
  exact wn_nodeYg hj (br_t rfl (wn_idYg ha (br_t rfl (wn_idYg hb (br_t rfl ⟨vj, nm_e ⟨vj, nm_e ⟨rfl, wn_mk5 hT G P⟩⟩⟩)))))
theorem i_vc_disturb {k : Nat} {u : SX} {v : SY} (I : i_Rel k u v) (hk : k + 5 ≤ 2560) (v1 : Int32) : wpX_disturb (fun r u' => wpY_disturb (fun r' v' => r' = r ∧ i_Rel (k + 5) u' v') v v1) u v1 := by
  have J := i_up I
  obtain ⟨T, hT, D, H, xs, xw, xq, xi, xg, xb, xc, yr, yf, yg, yl, yu, yi, yo, ya, yn, yk, I, L, C, B, S, E, ad, bd, bf, mi, fm, fv, fo, on, rfl, rfl, G, P⟩ := I
  obtain ⟨⟨g1, g2, g3⟩, hI, hL, hC, hB, hS, hE, hO, hd⟩ := G
  unfold wpX_disturb wpY_disturb
  by_cases h1 : v1 < 1
  · exact br_t h1 (br_t h1 ⟨rfl, J⟩)
  refine br_f h1 ?_
  by_cases h2 : v1 ≤ 1000
  · obtain ⟨j, hj, rfl⟩ := nI_of (x := v1) (fun z => h1 (Int32.lt_trans z (by decide)))
    have j1 : ¬ j < 1 := fun z => h1 (nI_lt (b := 1) z (by decide))
    have j2 : j ≤ 1000 := Nat.not_lt.mp (fun z => nI_ge (a := 1000) z hj h2)
    exact br_t h2 (br_f h1 (br_t h2 (nm_r (nI_add T j) ⟨rfl, wn_mk5 hT ⟨⟨j2, by omega, fun _ => rfl⟩, hI, hL, hC, hB, hS, hE, hO, hd⟩ P⟩)))
  · exact br_f h2 (br_f h1 (br_f h2 ⟨rfl, J⟩))
theorem wn_uset {f g : Nat → Nat} {j a : Nat} (hj : j < 100) : upd (fun z => nI (f z)) (nI j).toNatClampNeg (nI a) = fun z => nI (wn_set f j a z) := by
  rw [nI_clamp (by omega)]
  exact wn_upd f j a
theorem wn_set_le {f : Nat → Nat} {j a b : Nat} (h : ∀ m, f m ≤ b) (ha : a ≤ b) : ∀ m, wn_set f j a m ≤ b := by
  intro m
  unfold wn_set
  split
  · exact ha
  · exact h m
theorem wn_set_lt {f : Nat → Nat} {j a b : Nat} (h : ∀ m, f m < b) (ha : a < b) : ∀ m, wn_set f j a m < b := by
  intro m
  unfold wn_set
  split
  · exact ha
  · exact h m
theorem i_vc_restart {k : Nat} {u : SX} {v : SY} (I : i_Rel k u v) (hk : k + 5 ≤ 2560) (v1 : Int32) : wpX_restart (fun r u' => wpY_restart (fun r' v' => r' = r ∧ i_Rel (k + 5) u' v') v v1) u v1 := by
  have J := i_up I
  obtain ⟨T, hT, D, H, xs, xw, xq, xi, xg, xb, xc, yr, yf, yg, yl, yu, yi, yo, ya, yn, yk, I, L, C, B, S, E, ad, bd, bf, mi, fm, fv, fo, on, rfl, rfl, G, P⟩ := I
  unfold wpX_restart wpY_restart
  rcases wn_ix v1 (n := 4) (by decide) with h | ⟨j, hj, rfl⟩
  · exact wn_nodeXb h (br_t rfl (wn_nodeYb h (br_f (by decide) ⟨rfl, J⟩)))
  refine wn_nodeXg hj (br_f (by decide) ?_)
  by_cases h1 : xw = 1
  · exact br_t h1 (wn_nodeYg hj (br_t rfl (br_t h1 ⟨rfl, J⟩)))
  refine br_f h1 ?_
  by_cases h2 : xw = 2
  · exact br_t h2 (wn_nodeYg hj (br_t rfl (br_f h1 (br_t h2 ⟨rfl, J⟩))))
  refine br_f h2 ?_
  obtain ⟨⟨g1, g2, g3⟩, hI, hL, hC, hB, hS, hE, hO, hd⟩ := G
  have vj : vp_in (nI j) 4 := vp_in_nI hj (by decide)
  have ec : (nI j).toNatClampNeg = j := nI_clamp (by omega)
  have hP : ∀ I' C', wn_ph I' C' xw xq xi xg xb xc yr yf yg yl yu := by
    rcases P with h | ⟨h, -⟩ | h
    · exact fun _ _ => Or.inl h
    · exact absurd h h1
    · exact fun _ _ => Or.inr (Or.inr h)
  have hO' : ∀ m, m < 4 → (upd fo j 0 m = 0 ∧ upd on j 1 m = 1) ∨ (upd fo j 0 m = 1 ∧ upd on j 1 m = 0) := by
    intro m hm
    by_cases e : m = j
    · subst e
      exact Or.inl ⟨pk_us, pk_us⟩
    · rw [pk_un e, pk_un e]
      exact hO m hm
  have fin : i_Rel (k + 5) (nI T, xs, nI D, xw, xq, xi, xg, xb, xc, (fun z => nI (I z)), (fun z => nI (L z)), ad, (fun z => nI (C z)), bf, bd, (fun z => nI (B z)), mi, fm, fv, upd fo j 0, (fun z => nI ((wn_set S j 0) z)), (fun z => nI ((wn_set E j 0) z))) (nI T, xs, nI H, xw, yr, yf, yg, yl, yu, yi, yo, ya, yn, yk, upd on j 1, fm, fv, (fun z => nI ((wn_set S j 0) z)), (fun z => nI ((wn_set E j 0) z)), mi, (fun z => nI (C z)), (fun z => nI (16 * I z + L z)), ad, (fun z => nI (B z)), bf, bd) :=
    wn_mk5 hT ⟨⟨g1, g2, g3⟩, hI, hL, hC, hB, wn_set_le hS (by omega), wn_set_le hE (by omega), hO', hd⟩ (hP _ _)
  have ef : upd fo (nI j).toNatClampNeg (vp_nar .boolean 0) = upd fo j 0 := by rw [ec, wn_nb0]
  have eo : upd on (nI j).toNatClampNeg (vp_nar .boolean 1) = upd on j 1 := by rw [ec, wn_nb1]
  have es' : upd (fun z => nI (S z)) (nI j).toNatClampNeg 0 = fun z => nI (wn_set S j 0 z) := wn_uset (g := S) (a := 0) (by omega)
  have er' : upd (fun z => nI (E z)) (nI j).toNatClampNeg 0 = fun z => nI (wn_set E j 0 z) := wn_uset (g := S) (a := 0) (by omega)
  rcases hO j hj with ⟨q1, q2⟩ | ⟨q1, q2⟩
  · refine ⟨vj, br_t (by rw [ec]; exact q1) ⟨vj, nm_r ef ⟨vj, nm_r es' ⟨vj, nm_r er' ?_⟩⟩⟩⟩
    refine wn_nodeYg hj (br_t rfl (br_f h1 (br_f h2 ⟨vj, nm_r (show on (nI j).toNatClampNeg = 1 by rw [ec]; exact q2) ⟨vj, nm_r eo ⟨vj, nm_r es' ⟨vj, nm_r er' (br_f (by decide) ⟨rfl, fin⟩)⟩⟩⟩⟩)))
  · refine ⟨vj, br_f (by rw [ec, q1]; decide) ⟨vj, nm_r ef ⟨vj, nm_r es' ⟨vj, nm_r er' ?_⟩⟩⟩⟩
    refine wn_nodeYg hj (br_t rfl (br_f h1 (br_f h2 ⟨vj, nm_r (show on (nI j).toNatClampNeg = 0 by rw [ec]; exact q2) ⟨vj, nm_r eo ⟨vj, nm_r es' ⟨vj, nm_r er' (br_t rfl ⟨rfl, fin⟩)⟩⟩⟩⟩)))
theorem i_vc_frameAt {k : Nat} {u : SX} {v : SY} (I : i_Rel k u v) (hk : k + 5 ≤ 2560) (v1 : Int32) (v2 : Int32) : wpX_frameAt (fun r => wpY_frameAt (fun r' => r' = r ∧ i_Rel (k + 5) u v) v v1 v2) u v1 v2 := by
  have J := i_up I
  obtain ⟨T, hT, D, H, xs, xw, xq, xi, xg, xb, xc, yr, yf, yg, yl, yu, yi, yo, ya, yn, yk, I, L, C, B, S, E, ad, bd, bf, mi, fm, fv, fo, on, rfl, rfl, G, P⟩ := I
  obtain ⟨⟨g1, g2, g3⟩, hI, hL, hC, hB, hS, hE, hO, hd⟩ := G
  unfold wpX_frameAt wpY_frameAt
  rcases wn_ix v1 (n := 4) (by decide) with h | ⟨j, hj, rfl⟩
  · exact wn_nodeXb h (br_t rfl (wn_nodeYb h (br_f (by decide) ⟨rfl, J⟩)))
  refine wn_nodeXg hj (br_f (by decide) ?_)
  have vj : vp_in (nI j) 4 := vp_in_nI hj (by decide)
  unfold wpX_isInInbox
  by_cases h0 : v2 < 0
  · exact br_t h0 (br_t rfl (wn_nodeYg hj (br_t rfl (br_t h0 ⟨rfl, J⟩))))
  refine br_f h0 ⟨vj, ?_⟩
  obtain ⟨i, hi, rfl⟩ := nI_of h0
  have hb := hB j
  have eb : nI (B (nI j).toNatClampNeg) = nI (B j) := wn_at B (by omega)
  by_cases hlt : i < B j
  · have e1 : nI j * 6 + nI i = nI (6 * j + i) := by
      show nI j * nI 6 + nI i = _
      rw [pk_mul, nI_add, Nat.mul_comm]
    have e2 : 6 * nI j + nI i = nI (6 * j + i) := by
      show nI 6 * nI j + nI i = _
      rw [pk_mul, nI_add]
    refine br_f (show ¬ nI (B (nI j).toNatClampNeg) ≤ nI i by rw [eb]; exact nI_ge hlt (by omega)) (br_f (by decide) ⟨pk_in (6 * j + i) 24 (by omega) e1, ?_⟩)
    refine wn_nodeYg hj (br_t rfl (br_f h0 ⟨vj, br_t (show nI i < nI (B (nI j).toNatClampNeg) by rw [eb]; exact nI_lt hlt (by omega)) ⟨pk_in (6 * j + i) 24 (by omega) e2, ?_, J⟩⟩))
    rw [e1, e2]
  · refine br_t (show nI (B (nI j).toNatClampNeg) ≤ nI i by rw [eb]; exact nI_le (by omega) hi) (br_t rfl ?_)
    exact wn_nodeYg hj (br_t rfl (br_f h0 ⟨vj, br_f (show ¬ nI i < nI (B (nI j).toNatClampNeg) by rw [eb]; exact nI_nlt (by omega) hi) ⟨rfl, J⟩⟩))
theorem i_vc_dataAt {k : Nat} {u : SX} {v : SY} (I : i_Rel k u v) (hk : k + 5 ≤ 2560) (v1 : Int32) (v2 : Int32) : wpX_dataAt (fun r => wpY_dataAt (fun r' => r' = r ∧ i_Rel (k + 5) u v) v v1 v2) u v1 v2 := by
  have J := i_up I
  obtain ⟨T, hT, D, H, xs, xw, xq, xi, xg, xb, xc, yr, yf, yg, yl, yu, yi, yo, ya, yn, yk, I, L, C, B, S, E, ad, bd, bf, mi, fm, fv, fo, on, rfl, rfl, G, P⟩ := I
  obtain ⟨⟨g1, g2, g3⟩, hI, hL, hC, hB, hS, hE, hO, hd⟩ := G
  unfold wpX_dataAt wpY_dataAt
  rcases wn_ix v1 (n := 4) (by decide) with h | ⟨j, hj, rfl⟩
  · exact wn_nodeXb h (br_t rfl (wn_nodeYb h (br_f (by decide) ⟨rfl, J⟩)))
  refine wn_nodeXg hj (br_f (by decide) ?_)
  have vj : vp_in (nI j) 4 := vp_in_nI hj (by decide)
  unfold wpX_isInInbox
  by_cases h0 : v2 < 0
  · exact br_t h0 (br_t rfl (wn_nodeYg hj (br_t rfl (br_t h0 ⟨rfl, J⟩))))
  refine br_f h0 ⟨vj, ?_⟩
  obtain ⟨i, hi, rfl⟩ := nI_of h0
  have hb := hB j
  have eb : nI (B (nI j).toNatClampNeg) = nI (B j) := wn_at B (by omega)
  by_cases hlt : i < B j
  · have e1 : nI j * 6 + nI i = nI (6 * j + i) := by
      show nI j * nI 6 + nI i = _
      rw [pk_mul, nI_add, Nat.mul_comm]
    have e2 : 6 * nI j + nI i = nI (6 * j + i) := by
      show nI 6 * nI j + nI i = _
      rw [pk_mul, nI_add]
    refine br_f (show ¬ nI (B (nI j).toNatClampNeg) ≤ nI i by rw [eb]; exact nI_ge hlt (by omega)) (br_f (by decide) ⟨pk_in (6 * j + i) 24 (by omega) e1, ?_⟩)
    refine wn_nodeYg hj (br_t rfl (br_f h0 ⟨vj, br_t (show nI i < nI (B (nI j).toNatClampNeg) by rw [eb]; exact nI_lt hlt (by omega)) ⟨pk_in (6 * j + i) 24 (by omega) e2, ?_, J⟩⟩))
    rw [e1, e2]
  · refine br_t (show nI (B (nI j).toNatClampNeg) ≤ nI i by rw [eb]; exact nI_le (by omega) hi) (br_t rfl ?_)
    exact wn_nodeYg hj (br_t rfl (br_f h0 ⟨vj, br_f (show ¬ nI i < nI (B (nI j).toNatClampNeg) by rw [eb]; exact nI_nlt (by omega) hi) ⟨rfl, J⟩⟩))
end
section
/-! take, bitsOf, post, cancel, the constructors -/
section
variable {xt xs xe xw xq xi xg xb xc : Int32} {ai al ac bf bc mi fm fv fo es er : Nat → Int32} {ad bd : Nat → Int64}
theorem wn_tkX {B : Nat → Nat} {k e m : Nat} {r : Int32} {post : Int32 → SX → Prop} (he : e < 24) (hm : m < 4) (hB : 6 * m + B m = e) (h : post r (xt, xs, xe, xw, xq, xi, xg, xb, xc, ai, al, ad, ac, wn_shf k e bf, wn_shf k e bd, (fun z => nI (B z)), mi, fm, fv, fo, es, er)) : ∀ d j, j + d = e → k ≤ j →
    wX_take_46 post (nI m) (nI (6 * m)) r xt xs xe xw xq xi xg xb xc (d + 1) (nI j) ai al ad ac (wn_shf k j bf) (wn_shf k j bd) (fun z => nI (B z)) mi fm fv fo es er := by
  have vm : vp_in (nI m) 4 := vp_in_nI hm (by decide)
  have e3 : nI (6 * m) + nI (B (nI m).toNatClampNeg) = nI e := by rw [nI_clamp (by omega), nI_add, hB]
  intro d
  induction d with
  | zero =>
    intro j hj hk
    have e1 : j = e := by omega
    subst e1
    exact ⟨vm, pk_le j j (fun _ => h) (fun z => by omega) e3 rfl (by omega) (by omega)⟩
  | succ d ih =>
    intro j hj hk
    have v1 : vp_in (nI j + 1) 24 := pk_in (j + 1) 24 (by omega) (nI_1 j)
    have v0 : vp_in (nI j) 24 := vp_in_nI (by omega) (by decide)
    exact ⟨vm, pk_le e j (fun z => by omega) (fun _ => ⟨v1, v0, nm_r (wn_rs hk (by omega)) ⟨v1, v0, nm_r (wn_rsL hk (by omega)) (nm_r (nI_1 j) (ih (j + 1) (by omega) (by omega)))⟩⟩) e3 rfl (by omega) (by omega)⟩
end
section
variable {yt ys ye yp yr yf yg yl yu yi yo ya yn yk : Int32} {on ma va se re ms ww wh bn bh : Nat → Int32} {wt bx : Nat → Int64}
theorem wn_tkY {B : Nat → Nat} {k e m : Nat} {r : Int32} {post : Int32 → SY → Prop} (he : e < 24) (hm : m < 4) (hB : 6 * m + B m = e) (h : post r (yt, ys, ye, yp, yr, yf, yg, yl, yu, yi, yo, ya, yn, yk, on, ma, va, se, re, ms, ww, wh, wt, (fun z => nI (B z)), wn_shf k e bh, wn_shf k e bx)) : ∀ d j, j + d = e → k ≤ j →
    wY_take_47 post (nI m) r yt ys ye yp yr yf yg yl yu yi yo ya yn yk (d + 1) (nI j) on ma va se re ms ww wh wt (fun z => nI (B z)) (wn_shf k j bh) (wn_shf k j bx) := by
  have vm : vp_in (nI m) 4 := vp_in_nI hm (by decide)
  have e3 : 6 * nI m + nI (B (nI m).toNatClampNeg) = nI e := by
    rw [nI_clamp (by omega)]
    show nI 6 * nI m + _ = _
    rw [pk_mul, nI_add, hB]
  intro d
  induction d with
  | zero =>
    intro j hj hk
    have e1 : j = e := by omega
    subst e1
    exact ⟨vm, pk_le j j (fun _ => h) (fun z => by omega) e3 rfl (by omega) (by omega)⟩
  | succ d ih =>
    intro j hj hk
    have v1 : vp_in (nI j + 1) 24 := pk_in (j + 1) 24 (by omega) (nI_1 j)
    have v0 : vp_in (nI j) 24 := vp_in_nI (by omega) (by decide)
    exact ⟨vm, pk_le e j (fun z => by omega) (fun _ => ⟨v1, v0, nm_r (wn_rs hk (by omega)) ⟨v1, v0, nm_r (wn_rsL hk (by omega)) (nm_r (nI_1 j) (ih (j + 1) (by omega) (by omega)))⟩⟩) e3 rfl (by omega) (by omega)⟩
end
theorem i_vc_take {k : Nat} {u : SX} {v : SY} (I : i_Rel k u v) (hk : k + 5 ≤ 2560) (v1 : Int32) : wpX_take (fun r u' => wpY_take (fun r' v' => r' = r ∧ i_Rel (k + 5) u' v') v v1) u v1 := by
  have J := i_up I
  obtain ⟨T, hT, D, H, xs, xw, xq, xi, xg, xb, xc, yr, yf, yg, yl, yu, yi, yo, ya, yn, yk, I, L, C, B, S, E, ad, bd, bf, mi, fm, fv, fo, on, rfl, rfl, G, P⟩ := I
  obtain ⟨⟨g1, g2, g3⟩, hI, hL, hC, hB, hS, hE, hO, hd⟩ := G
  unfold wpX_take wpY_take
  rcases wn_ix v1 (n := 4) (by decide) with h | ⟨j, hj, rfl⟩
  · exact wn_nodeXb h (br_t rfl (wn_nodeYb h (br_f (by decide) ⟨rfl, J⟩)))
  have vj : vp_in (nI j) 4 := vp_in_nI hj (by decide)
  have eb : nI (B (nI j).toNatClampNeg) = nI (B j) := wn_at B (by omega)
  have hb := hB j
  refine wn_nodeXg hj (br_f (by decide) ⟨vj, ?_⟩)
  by_cases h0 : B j = 0
  · have z0 : nI (B (nI j).toNatClampNeg) = 0 := by rw [eb, h0]; exact nI_0
    exact br_t z0 (wn_nodeYg hj (br_t rfl ⟨vj, br_t z0 ⟨rfl, J⟩⟩))
  have z0 : ¬ nI (B (nI j).toNatClampNeg) = 0 := by rw [eb]; exact nI_ne0 (by omega) (by omega)
  have e6 : nI j * 6 = nI (6 * j) := by
    show nI j * nI 6 = _
    rw [pk_mul, Nat.mul_comm]
  have e6' : 6 * nI j = nI (6 * j) := by
    show nI 6 * nI j = _
    rw [pk_mul]
  have v6 : vp_in (nI (6 * j)) 24 := vp_in_nI (by omega) (by decide)
  have hB1 : 6 * j + wn_C1 B j j = 6 * j + (B j - 1) := by rw [show wn_C1 B j j = B j - 1 from wn_set_s]
  have hB1' : ∀ m, wn_C1 B j m ≤ 6 := wn_set_le hB (by omega)
  have fin : i_Rel (k + 5) (nI T, xs, nI D, xw, xq, xi, xg, xb, xc, (fun z => nI (I z)), (fun z => nI (L z)), ad, (fun z => nI (C z)), wn_shf (6 * j) (6 * j + (B j - 1)) bf, wn_shf (6 * j) (6 * j + (B j - 1)) bd, (fun z => nI ((wn_C1 B j) z)), mi, fm, fv, fo, (fun z => nI (S z)), (fun z => nI (E z))) (nI T, xs, nI H, xw, yr, yf, yg, yl, yu, yi, yo, ya, yn, yk, on, fm, fv, (fun z => nI (S z)), (fun z => nI (E z)), mi, (fun z => nI (C z)), (fun z => nI (16 * I z + L z)), ad, (fun z => nI ((wn_C1 B j) z)), wn_shf (6 * j) (6 * j + (B j - 1)) bf, wn_shf (6 * j) (6 * j + (B j - 1)) bd) :=
    wn_mk5 hT ⟨⟨g1, g2, g3⟩, hI, hL, hC, hB1', hS, hE, hO, hd⟩ P
  have Y1 := wn_tkY (r := bf (nI (6 * j)).toNatClampNeg) (post := fun r' v' => r' = bf (nI (6 * j)).toNatClampNeg ∧ i_Rel (k + 5) (nI T, xs, nI D, xw, xq, xi, xg, xb, xc, (fun z => nI (I z)), (fun z => nI (L z)), ad, (fun z => nI (C z)), wn_shf (6 * j) (6 * j + (B j - 1)) bf, wn_shf (6 * j) (6 * j + (B j - 1)) bd, (fun z => nI ((wn_C1 B j) z)), mi, fm, fv, fo, (fun z => nI (S z)), (fun z => nI (E z))) v') (by omega) hj hB1 ⟨rfl, fin⟩ (B j - 1) (6 * j) (by omega) (Nat.le_refl _)
  simp only [wn_shf_0] at Y1
  have HX : (fun (r : Int32) (u' : SX) => wpY_take (fun r' v' => r' = r ∧ i_Rel (k + 5) u' v') (nI T, xs, nI H, xw, yr, yf, yg, yl, yu, yi, yo, ya, yn, yk, on, fm, fv, (fun z => nI (S z)), (fun z => nI (E z)), mi, (fun z => nI (C z)), (fun z => nI (16 * I z + L z)), ad, (fun z => nI (B z)), bf, bd) (nI j)) (bf (nI (6 * j)).toNatClampNeg) (nI T, xs, nI D, xw, xq, xi, xg, xb, xc, (fun z => nI (I z)), (fun z => nI (L z)), ad, (fun z => nI (C z)), wn_shf (6 * j) (6 * j + (B j - 1)) bf, wn_shf (6 * j) (6 * j + (B j - 1)) bd, (fun z => nI ((wn_C1 B j) z)), mi, fm, fv, fo, (fun z => nI (S z)), (fun z => nI (E z))) := by
    show wpY_take _ _ _
    unfold wpY_take
    exact wn_nodeYg hj (br_t rfl ⟨vj, br_f z0 ⟨by rw [e6']; exact v6, nm_r (by rw [e6']) ⟨vj, vj, nm_r (wn_cnt (by omega) (by omega)) (nm_r e6' ⟨_, Y1⟩)⟩⟩⟩)
  have X1 := wn_tkX (bf := bf) (bd := bd) (k := 6 * j) (r := bf (nI (6 * j)).toNatClampNeg) (post := fun r u' => wpY_take (fun r' v' => r' = r ∧ i_Rel (k + 5) u' v') (nI T, xs, nI H, xw, yr, yf, yg, yl, yu, yi, yo, ya, yn, yk, on, fm, fv, (fun z => nI (S z)), (fun z => nI (E z)), mi, (fun z => nI (C z)), (fun z => nI (16 * I z + L z)), ad, (fun z => nI (B z)), bf, bd) (nI j)) (by omega) hj hB1 HX (B j - 1) (6 * j) (by omega) (Nat.le_refl _)
  simp only [wn_shf_0] at X1
  exact br_f z0 (nm_r e6 ⟨v6, nm_e ⟨vj, vj, nm_r (wn_cnt (by omega) (by omega)) ⟨_, X1⟩⟩⟩)
theorem i_vc_bitsOf {k : Nat} {u : SX} {v : SY} (I : i_Rel k u v) (hk : k + 5 ≤ 2560) (v1 : Int32) (v2 : Int32) (a2 : Int64) : wpX_bitsOf (fun r => wpY_bitsOf (fun r' v' => r' = r ∧ i_Rel (k + 5) u v') v v1 v2 a2) u v1 v2 a2 := by
  have J := i_up I
  obtain ⟨T, hT, D, H, xs, xw, xq, xi, xg, xb, xc, yr, yf, yg, yl, yu, yi, yo, ya, yn, yk, I, L, C, B, S, E, ad, bd, bf, mi, fm, fv, fo, on, rfl, rfl, G, P⟩ := I
  unfold wpX_bitsOf wpY_bitsOf
  rcases wn_ix v1 (n := 2048) (by decide) with h | ⟨a, ha, rfl⟩
  · exact wn_idXb h (br_t rfl (wn_idYb h (br_f (by decide) ⟨rfl, J⟩)))
  refine wn_idXg ha (br_f (by decide) ?_)
  rcases wn_ix v2 (n := 9) (by decide) with h | ⟨l, hl, rfl⟩
  · exact wn_lenXb h (br_t rfl (wn_idYg ha (br_t rfl (br_c (fun _ => ⟨rfl, J⟩) (fun z => br_f (wn_lit (a := 8) (by decide) (by decide) (h.resolve_left z)) ⟨rfl, J⟩)))))
  obtain ⟨n, hn, rfl⟩ := wb_of a2
  have hl' : l ≤ 8 := by omega
  refine wn_lenXg hl' (br_f (by decide) (wn_check ha hl' hn ?_))
  have e34 : (19 : Int32) + 8 * nI l + 15 = nI (34 + 8 * l) := by
    rw [wn_19]
    exact (nI_add _ 15).trans (congrArg nI (by omega))
  refine nm_r e34 (wn_out ha hl' hn (wn_C_lt _ _) (Nat.le_refl _) ?_)
  refine wn_idYg ha (br_t rfl (br_f (nI_pos (by omega)) (br_t (nI_le (b := 8) hl' (by decide)) ?_)))
  exact wn_meas ha hl' hn rfl rfl ⟨rfl, wn_mk5 hT G P⟩
def wn_on (j : Nat) : Nat → Int32 := fun n => if n < j then 1 else 0
theorem wn_on_s {j : Nat} (hj : j < 100) : upd (wn_on j) (nI j).toNatClampNeg (vp_nar .boolean 1) = wn_on (j + 1) := by
  rw [nI_clamp (by omega), wn_nb1]
  funext p
  by_cases e : p = j
  · subst e
    rw [pk_us]
    exact (if_pos (by omega)).symm
  · rw [pk_un e]
    unfold wn_on
    by_cases h : p < j
    · rw [if_pos h, if_pos (by omega)]
    · rw [if_neg h, if_neg (by omega)]
section
variable {yt ys ye yp yr yf yg yl yu yi yo ya yn yk : Int32} {on ma va se re ms ww wh bn bh : Nat → Int32} {wt bx : Nat → Int64}
theorem wn_initL {post : SY → Prop} (h : post (yt, ys, ye, yp, yr, yf, yg, yl, yu, yi, yo, ya, yn, yk, wn_on 4, ma, va, se, re, ms, ww, wh, wt, bn, bh, bx)) : ∀ d j, j + d = 4 → wY_init_94 post yt ys ye yp yr yf yg yl yu yi yo ya yn yk (d + 1) (nI j) (wn_on j) ma va se re ms ww wh wt bn bh bx := by
  intro d
  induction d with
  | zero =>
    intro j hj
    have e : j = 4 := by omega
    subst e
    exact br_t (by decide) h
  | succ d ih =>
    intro j hj
    exact br_f (nI_ge (b := 4) (by omega) (by decide)) ⟨vp_in_nI (by omega) (by decide), nm_r (wn_on_s (by omega)) (nm_r (nI_1 j) (ih (j + 1) (by omega)))⟩
end
theorem i_vc0 : wpX_init (fun u => wpY_init (fun v => i_Rel 0 u v)) := by
  unfold wpX_init wpY_init
  refine ⟨5, wn_initL ?_ 4 0 rfl⟩
  refine ⟨0, by omega, 0, 0, 0, 0, 0, 0, 0, 0, 0, 0, 0, 0, 0, 0, 0, 0, 0, 0, 0, fun _ => 0, fun _ => 0, fun _ => 0, fun _ => 0, fun _ => 0, fun _ => 0, fun _ => 0, fun _ => 0, fun _ => 0, fun _ => 0, fun _ => 0, fun _ => 0, fun _ => 0, wn_on 4, rfl, rfl, ?_, Or.inl rfl⟩
  refine ⟨⟨by omega, by omega, by omega⟩, fun _ => Nat.zero_lt_succ 2047, fun _ => Nat.zero_le 8, fun _ => Nat.zero_le 4, fun _ => Nat.zero_le 6, fun _ => Nat.zero_le _, fun _ => Nat.zero_le 255, fun m hm => Or.inl ⟨rfl, if_pos hm⟩, ?_⟩
  intro p q _ _ tp
  exact absurd tp (Nat.not_lt_zero _)
end
section
/-! post and cancel -/
section
variable {yt ys ye yp yr yf yg yl yu yi yo ya yn yk : Int32} {on ma va se re ms ww wh bn bh : Nat → Int32} {wt bx : Nat → Int64}
theorem wn_findYe {I L C : Nat → Nat} {post : Int32 → Prop} {a : Nat} {x : Int32} (hx : x = nI a) (hC : ∀ m, C m ≤ 4) (hI : ∀ p, I p < 2048) (hL : ∀ p, L p ≤ 8) (ha : a < 2048) (h1 : ∀ q, q < 16 → wn_tk C q → I q = a → post (nI q)) (h2 : (∀ q, q < 16 → wn_tk C q → I q ≠ a) → post (-1)) :
    wpY_find post (yt, ys, ye, yp, yr, yf, yg, yl, yu, yi, yo, ya, yn, yk, on, ma, va, se, re, ms, (fun z => nI (C z)), (fun z => nI (16 * I z + L z)), wt, bn, bh, bx) x := by
  subst hx
  exact wn_findY hC hI hL ha h1 h2
/-- the lowest bytes -/
def wn_dv (p0 : Int32) (x : Int64) : Int64 := if p0 = 8 then x else x &&& (((1 : Int64) <<< ((8 * p0).toInt64 &&& 63)) - 1)
theorem wn_lowX {post : Int64 → Prop} {p0 : Int32} {x : Int64} (h : post (wn_dv p0 x)) : wpX_lowestBytes post p0 x := by
  unfold wn_dv at h
  unfold wpX_lowestBytes
  by_cases e : p0 = 8
  · rw [if_pos e] at h
    exact br_t e h
  · rw [if_neg e] at h
    exact br_f e h
theorem wn_cutY {post : Int64 → Prop} {p0 : Int32} {x : Int64} (h : post (wn_dv p0 x)) : wpY_cut post (yt, ys, ye, yp, yr, yf, yg, yl, yu, yi, yo, ya, yn, yk, on, ma, va, se, re, ms, ww, wh, wt, bn, bh, bx) p0 x := by
  unfold wn_dv at h
  unfold wpY_cut
  by_cases e : p0 = 8
  · rw [if_pos e] at h
    exact br_t e h
  · rw [if_neg e] at h
    exact br_f e h
end
theorem wn_tk_up {C : Nat → Nat} {m p : Nat} (hm : C m < 4) (h : wn_tk C p) : wn_tk (wn_set C m (C m + 1)) p ∧ p ≠ 4 * m + C m := by
  have h' : p % 4 < C (p / 4) := h
  by_cases e : p / 4 = m
  · rw [e] at h'
    refine ⟨?_, by omega⟩
    show p % 4 < wn_set C m (C m + 1) (p / 4)
    rw [e, wn_set_s]
    omega
  · refine ⟨?_, fun z => ?_⟩
    · show p % 4 < wn_set C m (C m + 1) (p / 4)
      rw [wn_set_n e]
      exact h'
    · omega
theorem wn_tk_dn {C : Nat → Nat} {m p : Nat} (hm : C m < 4) (h : wn_tk (wn_set C m (C m + 1)) p) : p = 4 * m + C m ∨ (wn_tk C p ∧ p ≠ 4 * m + C m) := by
  have h' : p % 4 < wn_set C m (C m + 1) (p / 4) := h
  by_cases e : p / 4 = m
  · rw [e, wn_set_s] at h'
    by_cases e2 : p = 4 * m + C m
    · exact Or.inl e2
    · refine Or.inr ⟨?_, e2⟩
      show p % 4 < C (p / 4)
      rw [e]
      omega
  · rw [wn_set_n e] at h'
    exact Or.inr ⟨h', by omega⟩
theorem wn_dis_post {I C : Nat → Nat} {m a : Nat} (hm : C m < 4) (hd : wn_dis I C) (hn : ∀ q, q < 16 → wn_tk C q → I q ≠ a) : wn_dis (wn_set I (4 * m + C m) a) (wn_set C m (C m + 1)) := by
  intro p q hp hq tp tq e
  rcases wn_tk_dn hm tp with h1 | ⟨t1, n1⟩
  · rcases wn_tk_dn hm tq with h2 | ⟨t2, n2⟩
    · omega
    · rw [h1, wn_set_s, wn_set_n n2] at e
      exact absurd e.symm (hn q hq t2)
  · rcases wn_tk_dn hm tq with h2 | ⟨t2, n2⟩
    · rw [h2, wn_set_s, wn_set_n n1] at e
      exact absurd e (hn p hp t1)
    · rw [wn_set_n n1, wn_set_n n2] at e
      exact hd p q hp hq t1 t2 e
theorem wn_ph_up {I C I' C' : Nat → Nat} {xw xq xi xg xb xc yr yf yg yl yu : Int32} (h : ∀ p, p < 16 → wn_tk C p → wn_tk C' p ∧ I' p = I p) (P : wn_ph I C xw xq xi xg xb xc yr yf yg yl yu) : wn_ph I' C' xw xq xi xg xb xc yr yf yg yl yu := by
  rcases P with P | ⟨P, p, g, b, q, hp, ht, e1, e2⟩ | P
  · exact Or.inl P
  · obtain ⟨t1, t2⟩ := h p hp ht
    exact Or.inr (Or.inl ⟨P, p, g, b, q, hp, t1, by rw [t2]; exact e1, e2⟩)
  · exact Or.inr (Or.inr P)
theorem i_vc_post {k : Nat} {u : SX} {v : SY} (I : i_Rel k u v) (hk : k + 5 ≤ 2560) (v1 : Int32) (v2 : Int32) (a2 : Int64) : wpX_post (fun r u' => wpY_post (fun r' v' => r' = r ∧ i_Rel (k + 5) u' v') v v1 v2 a2) u v1 v2 a2 := by
  have J := i_up I
  obtain ⟨T, hT, D, H, xs, xw, xq, xi, xg, xb, xc, yr, yf, yg, yl, yu, yi, yo, ya, yn, yk, I, L, C, B, S, E, ad, bd, bf, mi, fm, fv, fo, on, rfl, rfl, G, P⟩ := I
  obtain ⟨⟨g1, g2, g3⟩, hI, hL, hC, hB, hS, hE, hO, hd⟩ := G
  unfold wpX_post wpY_post
  rcases wn_ix v1 (n := 8192) (by decide) with h | ⟨c, hc, rfl⟩
  · by_cases h0 : v1 < 0
    · exact br_t h0 (br_t h0 ⟨rfl, J⟩)
    · have h8 : nI 8192 ≤ v1 := h.resolve_left h0
      exact br_f h0 (br_t h8 (br_f h0 (br_t (Int32.lt_of_lt_of_le (nI_lt (a := 8191) (b := 8192) (by decide) (by decide)) h8) ⟨rfl, J⟩)))
  have c0 : ¬ nI c < 0 := nI_pos (by omega)
  have c8 : ¬ (8191 : Int32) < nI c := nI_nlt (a := 8191) (b := c) (by omega) (by decide)
  refine br_f c0 (br_f (nI_ge (b := 8192) hc (by decide)) ?_)
  rcases wn_ix v2 (n := 9) (by decide) with h | ⟨l, hl, rfl⟩
  · exact wn_lenXb h (br_t rfl (br_f c0 (br_f c8 (br_c (fun _ => ⟨rfl, J⟩) (fun z => br_f (wn_lit (a := 8) (by decide) (by decide) (h.resolve_left z)) ⟨rfl, J⟩)))))
  have hl' : l ≤ 8 := by omega
  have l0 : ¬ nI l < 0 := nI_pos (by omega)
  have l8 : nI l ≤ 8 := nI_le (b := 8) hl' (by decide)
  obtain ⟨m, em⟩ : ∃ m, m = c / 2048 := ⟨_, rfl⟩
  obtain ⟨a, ea⟩ : ∃ a, a = c % 2048 := ⟨_, rfl⟩
  have e1 : nI c / 2048 = nI m := (pk_div (d := 2048) (by omega) (by decide) (by decide)).trans (congrArg nI em.symm)
  have e2 : nI c - nI c / 2048 * 2048 = nI a := (pk_rem (d := 2048) (by omega) (by decide) (by decide)).trans (congrArg nI ea.symm)
  have hm : m < 4 := by omega
  have ha : a < 2048 := by omega
  have vm : vp_in (nI m) 4 := vp_in_nI hm (by decide)
  refine wn_lenXg hl' (br_f (by decide) ⟨by decide, nm_r e1 ⟨by decide, nm_r e2 (wn_findX hC hI ha (fun q hq tk e => ?_) (fun hn => ?_))⟩⟩)
  · refine br_f (wn_ne2 (by omega)) (br_f c0 (br_f c8 (br_f l0 (br_t l8 ⟨by decide, nm_r e1 ⟨by decide, wn_findYe e2 hC hI hL ha (fun q' hq' _ _ => br_f (nI_pos (by omega)) ⟨rfl, J⟩) (fun hn => absurd e (hn q hq tk))⟩⟩))))
  have hcm := hC m
  have ec : nI (C (nI m).toNatClampNeg) = nI (C m) := wn_at C (by omega)
  by_cases hf : C m < 4
  · have e4 : nI m * 4 + nI (C (nI m).toNatClampNeg) = nI (4 * m + C m) := by
      rw [ec]
      show nI m * nI 4 + _ = _
      rw [pk_mul, nI_add, Nat.mul_comm]
    have e4' : 4 * nI m + nI (C (nI m).toNatClampNeg) = nI (4 * m + C m) := by
      rw [ec]
      show nI 4 * nI m + _ = _
      rw [pk_mul, nI_add]
    have vp : vp_in (nI (4 * m + C m)) 16 := vp_in_nI (by omega) (by decide)
    have vp' : vp_in (4 * nI m + nI (C (nI m).toNatClampNeg)) 16 := pk_in (4 * m + C m) 16 (by omega) e4'
    have ecnt : upd (fun z => nI (C z)) (nI m).toNatClampNeg (nI (C (nI m).toNatClampNeg) + 1) = fun z => nI (wn_set C m (C m + 1) z) := by
      rw [ec, nI_1]
      exact wn_uset (g := C) (by omega)
    have eD : vp_updL ad (4 * nI m + nI (C (nI m).toNatClampNeg)).toNatClampNeg (wn_dv (nI l) a2) = vp_updL ad (nI (4 * m + C m)).toNatClampNeg (wn_dv (nI l) a2) := by rw [e4']
    have eH : upd (fun z => nI (16 * I z + L z)) (4 * nI m + nI (C (nI m).toNatClampNeg)).toNatClampNeg (16 * (nI c - nI c / 2048 * 2048) + nI l) = fun z => nI (16 * wn_set I (4 * m + C m) a z + wn_set L (4 * m + C m) l z) := by
      rw [e4', e2, nI_clamp (by omega), show (16 : Int32) * nI a = nI (16 * a) from pk_mul 16 a, nI_add]
      funext z
      by_cases ez : z = 4 * m + C m
      · subst ez
        rw [pk_us, wn_set_s, wn_set_s]
      · rw [pk_un ez, wn_set_n ez, wn_set_n ez]
    have fin : i_Rel (k + 5) (nI T, xs, nI D, xw, xq, xi, xg, xb, xc, (fun z => nI ((wn_set I (4 * m + C m) a) z)), (fun z => nI ((wn_set L (4 * m + C m) l) z)), vp_updL ad (nI (4 * m + C m)).toNatClampNeg (wn_dv (nI l) a2), (fun z => nI ((wn_set C m (C m + 1)) z)), bf, bd, (fun z => nI (B z)), mi, fm, fv, fo, (fun z => nI (S z)), (fun z => nI (E z))) (nI T, xs, nI H, xw, yr, yf, yg, yl, yu, yi, yo, ya, yn, yk, on, fm, fv, (fun z => nI (S z)), (fun z => nI (E z)), mi, (fun z => nI ((wn_set C m (C m + 1)) z)), (fun z => nI (16 * (wn_set I (4 * m + C m) a) z + (wn_set L (4 * m + C m) l) z)), vp_updL ad (nI (4 * m + C m)).toNatClampNeg (wn_dv (nI l) a2), (fun z => nI (B z)), bf, bd) :=
      wn_mk5 hT ⟨⟨g1, g2, g3⟩, wn_set_lt hI ha, wn_set_le hL hl', wn_set_le hC (by omega), hB, hS, hE, hO, wn_dis_post hf hd hn⟩
        (wn_ph_up (fun p _ tp => ⟨(wn_tk_up hf tp).1, wn_set_n (wn_tk_up hf tp).2⟩) P)
    refine br_t rfl ⟨vm, br_t (show nI (C (nI m).toNatClampNeg) < 4 by rw [ec]; exact nI_lt (b := 4) hf (by decide)) ⟨vm, nm_r e4 ⟨vp, nm_r (wn_uset (g := C) (by omega)) ⟨vp, nm_r (wn_uset (g := C) (by omega)) (wn_lowX ⟨vp, nm_e ⟨vm, vm, nm_r ecnt ⟨vm, ?_⟩⟩⟩)⟩⟩⟩⟩
    exact br_f c0 (br_f c8 (br_f l0 (br_t l8 ⟨by decide, nm_r e1 ⟨by decide, wn_findYe e2 hC hI hL ha (fun q hq tk e => absurd e (hn q hq tk)) (fun _ => br_t wn_neg ⟨vm, br_f (show ¬ nI (C (nI m).toNatClampNeg) = 4 by rw [ec]; exact fun z => by have := (nI_eq (b := 4) (by omega) (by decide)).mp z; omega) ⟨vm, by decide, vp', nm_r eH ⟨vm, wn_cutY ⟨vp', nm_r eD ⟨vm, vm, nm_r ecnt ⟨vm, rfl, fin⟩⟩⟩⟩⟩⟩)⟩⟩)))
  · have hf4 : C m = 4 := by omega
    refine br_t rfl ⟨vm, br_f (show ¬ nI (C (nI m).toNatClampNeg) < 4 by rw [ec]; exact nI_nlt (b := 4) (by omega) (by omega)) ?_⟩
    exact br_f c0 (br_f c8 (br_f l0 (br_t l8 ⟨by decide, nm_r e1 ⟨by decide, wn_findYe e2 hC hI hL ha (fun q hq tk e => absurd e (hn q hq tk)) (fun _ => br_t wn_neg ⟨vm, br_t (show nI (C (nI m).toNatClampNeg) = 4 by rw [ec, hf4]; rfl) ⟨rfl, J⟩⟩)⟩⟩)))
section
variable {xt xs xe xw xq xi xg xb xc : Int32} {ai al ac bf bc mi fm fv fo es er : Nat → Int32} {ad bd : Nat → Int64}
variable {yt ys ye yp yr yf yg yl yu yi yo ya yn yk : Int32} {on ma va se re ms ww wh bn bh : Nat → Int32} {wt bx : Nat → Int64}
variable {I L C B S E : Nat → Nat} {post : SY → Prop}
theorem wn_rmYP {k : Nat} {yp : Int32} (hC : ∀ m, C m ≤ 4) (hk : k < 16) (ht : wn_tk C k) (hp : ¬ yp = 1)
    (h : post (yt, ys, ye, yp, yr, yf, yg, yl, yu, yi, yo, ya, yn, yk, on, fm, fv, (fun z => nI (S z)), (fun z => nI (E z)), mi, (fun z => nI ((wn_C1 C (k / 4)) z)), (fun z => nI (16 * (wn_shf k (wn_end C k) I) z + (wn_shf k (wn_end C k) L) z)), wn_shf k (wn_end C k) ad, (fun z => nI (B z)), bf, bd)) : wpY_takeOut post (yt, ys, ye, yp, yr, yf, yg, yl, yu, yi, yo, ya, yn, yk, on, fm, fv, (fun z => nI (S z)), (fun z => nI (E z)), mi, (fun z => nI (C z)), (fun z => nI (16 * I z + L z)), ad, (fun z => nI (B z)), bf, bd) (nI k) := by
  refine wn_rmY hC hk ht hp ?_
  rw [wn_shf_h]
  exact h
theorem wn_rmYP28 {k a : Nat} {z0 : Int32} (hC : ∀ m, C m ≤ 4) (hk : k < 16) (ht : wn_tk C k) (hz : z0 = nI a) (ha : a < 2048)
    (h : wpY_find (fun r => post (yt, ys, ye, yp, yr, r, yg, yl, yu, yi, yo, ya, yn, yk, on, fm, fv, (fun z => nI (S z)), (fun z => nI (E z)), mi, (fun z => nI ((wn_C1 C (k / 4)) z)), (fun z => nI (16 * (wn_shf k (wn_end C k) I) z + (wn_shf k (wn_end C k) L) z)), wn_shf k (wn_end C k) ad, (fun z => nI (B z)), bf, bd)) (yt, ys, ye, yp, yr, yf, yg, yl, yu, yi, yo, ya, yn, yk, on, fm, fv, (fun z => nI (S z)), (fun z => nI (E z)), mi, (fun z => nI ((wn_C1 C (k / 4)) z)), (fun z => nI (16 * (wn_shf k (wn_end C k) I) z + (wn_shf k (wn_end C k) L) z)), wn_shf k (wn_end C k) ad, (fun z => nI (B z)), bf, bd) (nI a)) :
    wY_takeOut_28 post (nI k) (nI (k / 4)) z0 yt ys ye yp yr yf yg yl yu yi yo ya yn yk on fm fv (fun z => nI (S z)) (fun z => nI (E z)) mi (fun z => nI (C z)) (fun z => nI (16 * I z + L z)) ad (fun z => nI (B z)) bf bd := by
  subst hz
  refine wn_rmY28 hC hk ht (br_f (nI_pos (by omega)) ?_)
  rw [wn_shf_h]
  exact h
end
theorem i_vc_cancel {k : Nat} {u : SX} {v : SY} (I : i_Rel k u v) (hk : k + 5 ≤ 2560) (v1 : Int32) : wpX_cancel (fun r u' => wpY_cancel (fun r' v' => r' = r ∧ i_Rel (k + 5) u' v') v v1) u v1 := by
  have J := i_up I
  obtain ⟨T, hT, D, H, xs, xw, xq, xi, xg, xb, xc, yr, yf, yg, yl, yu, yi, yo, ya, yn, yk, I, L, C, B, S, E, ad, bd, bf, mi, fm, fv, fo, on, rfl, rfl, G, P⟩ := I
  obtain ⟨⟨g1, g2, g3⟩, hI, hL, hC, hB, hS, hE, hO, hd⟩ := G
  rcases wn_ix v1 (n := 2048) (by decide) with h | ⟨a, ha, rfl⟩
  · unfold wpX_cancel wpY_cancel
    exact wn_idXb h (br_t rfl (wn_idYb h (br_f (by decide) ⟨rfl, J⟩)))
  unfold wpX_cancel
  refine wn_idXg ha (br_f (by decide) (wn_findX hC hI ha (fun q hq tk e => ?_) (fun hn => ?_)))
  · have yw : ∀ post : Int32 → SY → Prop, ((xw = 1 → ((yf = nI q → post (-5) (nI T, xs, nI H, xw, yr, yf, yg, yl, yu, yi, yo, ya, yn, yk, on, fm, fv, (fun z => nI (S z)), (fun z => nI (E z)), mi, (fun z => nI (C z)), (fun z => nI (16 * I z + L z)), ad, (fun z => nI (B z)), bf, bd)) ∧ (¬ yf = nI q → wY_cancel_42 post (nI q) (nI T) xs (nI H) xw yr yf yg yl yu yi yo ya yn yk on fm fv (fun z => nI (S z)) (fun z => nI (E z)) mi (fun z => nI (C z)) (fun z => nI (16 * I z + L z)) ad (fun z => nI (B z)) bf bd))) ∧ (¬ xw = 1 → wY_cancel_42 post (nI q) (nI T) xs (nI H) xw yr yf yg yl yu yi yo ya yn yk on fm fv (fun z => nI (S z)) (fun z => nI (E z)) mi (fun z => nI (C z)) (fun z => nI (16 * I z + L z)) ad (fun z => nI (B z)) bf bd)) → wpY_cancel post (nI T, xs, nI H, xw, yr, yf, yg, yl, yu, yi, yo, ya, yn, yk, on, fm, fv, (fun z => nI (S z)), (fun z => nI (E z)), mi, (fun z => nI (C z)), (fun z => nI (16 * I z + L z)), ad, (fun z => nI (B z)), bf, bd) (nI a) := by
      intro post hz
      unfold wpY_cancel
      refine wn_idYg ha (br_t rfl (wn_findY hC hI hL ha (fun q' hq' tk' e' => ?_) (fun hn => absurd e (hn q hq tk))))
      have eq : q' = q := hd q' q hq' hq tk' tk (e'.trans e.symm)
      subst eq
      exact br_t (nI_pos' (by omega)) hz
    refine br_f (wn_ne2 (by omega)) ?_
    have gg := wn_dis_rm hC hq tk hd
    have hI' := wn_shf_lt (k := q) (e := wn_end C q) hI
    have hL' := wn_shf_le (k := q) (e := wn_end C q) hL
    have hC' := wn_C1_le (m := q / 4) hC
    by_cases h1 : xw = 1
    · rcases P with h | ⟨h, p, g, b, n, hp, ht, e1, e2, rest⟩ | ⟨h, -⟩
      · exact absurd h1 (wn_not1 (Or.inl h))
      · by_cases epq : q = p
        · subst epq
          exact br_t h1 (br_t (e1.trans (congrArg nI e)) (yw _ (br_t h1 (br_t e2 ⟨rfl, J⟩))))
        · have hx : ¬ xi = nI a := fun z => by
            have z2 := (nI_eq (by have := hI p; omega) (by omega)).mp (e1.symm.trans z)
            exact epq (hd q p hq hp tk ht (e.trans z2.symm))
          have hy : ¬ yf = nI q := fun z => epq ((nI_eq (by omega) (by omega)).mp (z.symm.trans e2))
          obtain ⟨p', hp', ht', hf'⟩ := wn_dst hC hq tk hp ht (Ne.symm epq)
          refine br_t h1 (br_f hx ?_)
          unfold wX_cancel_43
          refine wn_rmXP hC hq tk ⟨by decide, yw _ (br_t h1 (br_f hy ?_))⟩
          unfold wY_cancel_42 wpY_takeOut
          refine ⟨by decide, nm_r (wn_q q (by omega)).1 (br_t h1 ⟨by rw [e2]; exact vp_in_nI hp (by decide), by decide, wn_rmYP28 (a := I p) hC hq tk ?_ (hI p) ?_⟩)⟩
          · rw [e2]
            show nI (16 * I (nI p).toNatClampNeg + L (nI p).toNatClampNeg) / 16 = nI (I p)
            rw [nI_clamp (by omega)]
            exact (wn_h16 (hI p) (hL p)).1
          · refine wn_findY hC' hI' hL' (hI p) (fun r hr tr er => ?_) (fun hn => absurd (hf' I) (hn p' hp' ht'))
            have err : r = p' := gg r p' hr hp' tr ht' (er.trans (hf' I).symm)
            subst err
            refine ⟨by decide, rfl, wn_mk5 hT ⟨⟨g1, g2, g3⟩, hI', hL', hC', hB, hS, hE, hO, gg⟩ (Or.inr (Or.inl ⟨h1, r, g, b, n, hr, tr, ?_, rfl, rest⟩))⟩
            rw [hf' I]
            exact e1
      · exact absurd h1 (wn_not1 (Or.inr h))
    · refine br_f h1 ?_
      unfold wX_cancel_43
      refine wn_rmXP hC hq tk ⟨by decide, yw _ (br_f h1 ?_)⟩
      unfold wY_cancel_42
      refine wn_rmYP hC hq tk h1 ⟨by decide, rfl, wn_mk5 hT ⟨⟨g1, g2, g3⟩, hI', hL', hC', hB, hS, hE, hO, gg⟩ ?_⟩
      rcases P with h | ⟨h, -⟩ | h
      · exact Or.inl h
      · exact absurd h h1
      · exact Or.inr (Or.inr h)
  · unfold wpY_cancel
    exact br_t rfl (wn_idYg ha (br_t rfl (wn_findY hC hI hL ha (fun q hq tk e => absurd e (hn q hq tk)) (fun _ => br_f (by decide) ⟨rfl, J⟩))))
end
section
/-! breaking off, delivering, finishing: both sides in step -/
theorem wn_sn {f : Nat → Nat} {j a : Nat} (h : f j = a) : wn_set f j a = f := by
  funext z
  by_cases e : z = j
  · subst e
    rw [wn_set_s, h]
  · rw [wn_set_n e]
section
variable {xt xs xe xw xq xi xg xb xc : Int32} {ai al ac bf bc mi fm fv fo es er : Nat → Int32} {ad bd : Nat → Int64}
variable {yt ys ye yp yr yf yg yl yu yi yo ya yn yk : Int32} {on ma va se re ms ww wh bn bh : Nat → Int32} {wt bx : Nat → Int64}
theorem wn_brkL {m : Nat} (hm : m < 4) (hO : ∀ i, i < 4 → (fo i = 0 ∧ on i = 1) ∨ (fo i = 1 ∧ on i = 0)) : ∀ d j, j + d = 4 → ∀ E : Nat → Nat, (∀ i, E i ≤ 255) → ∃ E' : Nat → Nat, (∀ i, E' i ≤ 255) ∧
      (∀ post : SX → Prop, wX_breakOff_2 post (nI m) xt xs xe xw xq xi xg xb xc 1 4 ai al ad ac bf bd bc mi fm fv fo es (fun z => nI (E' z)) → wX_breakOff_2 post (nI m) xt xs xe xw xq xi xg xb xc (d + 1) (nI j) ai al ad ac bf bd bc mi fm fv fo es (fun z => nI (E z))) ∧
      (∀ post : SY → Prop, wY_breakOff_20 post (nI m) yt ys ye yp yr yf yg yl yu yi yo ya yn yk 1 4 on ma va se (fun z => nI (E' z)) ms ww wh wt bn bh bx → wY_breakOff_20 post (nI m) yt ys ye yp yr yf yg yl yu yi yo ya yn yk (d + 1) (nI j) on ma va se (fun z => nI (E z)) ms ww wh wt bn bh bx) := by
  intro d
  induction d with
  | zero =>
    intro j hj E hE
    have e : j = 4 := by omega
    subst e
    exact ⟨E, hE, fun _ h => h, fun _ h => h⟩
  | succ d ih =>
    intro j hj E hE
    have n4 : ¬ (4 : Int32) ≤ nI j := nI_ge (b := 4) (by omega) (by decide)
    have vj : vp_in (nI j) 4 := vp_in_nI (by omega) (by decide)
    have ec : (nI j).toNatClampNeg = j := nI_clamp (by omega)
    by_cases e : j = m
    · obtain ⟨E', h1, hX, hY⟩ := ih (j + 1) (by omega) E hE
      exact ⟨E', h1, fun post h => br_f n4 (br_t (congrArg nI e) (nm_r (nI_1 j) (hX post h))), fun post h => br_f n4 (br_t (congrArg nI e) (nm_r (nI_1 j) (hY post h)))⟩
    have ne : ¬ nI j = nI m := fun z => e ((nI_eq (by omega) (by omega)).mp z)
    rcases hO j (by omega) with ⟨q1, q2⟩ | ⟨q1, q2⟩
    · have f0 : fo (nI j).toNatClampNeg = 0 := by rw [ec]; exact q1
      have n0 : ¬ on (nI j).toNatClampNeg = 0 := by rw [ec, q2]; decide
      have hej := hE j
      have ee : nI (E (nI j).toNatClampNeg) = nI (E j) := wn_at E (by omega)
      by_cases h255 : 255 ≤ E j
      · have z : (255 : Int32) ≤ nI (E (nI j).toNatClampNeg) := by rw [ee]; exact nI_le (a := 255) h255 (by omega)
        obtain ⟨E', h1, hX, hY⟩ := ih (j + 1) (by omega) E hE
        exact ⟨E', h1, fun post h => br_f n4 (br_f ne ⟨vj, br_t f0 ⟨vj, br_t z (nm_r (nI_1 j) (hX post h))⟩⟩), fun post h => br_f n4 (br_f ne ⟨vj, br_f n0 ⟨vj, br_t z (nm_r (nI_1 j) (hY post h))⟩⟩)⟩
      · have z : ¬ (255 : Int32) ≤ nI (E (nI j).toNatClampNeg) := by rw [ee]; exact nI_ge (b := 255) (by omega) (by decide)
        have eu : upd (fun z => nI (E z)) (nI j).toNatClampNeg (nI (E (nI j).toNatClampNeg) + 1) = fun z => nI (wn_set E j (E j + 1) z) := by
          rw [ee, nI_1]
          exact wn_uset (g := E) (by omega)
        obtain ⟨E', h1, hX, hY⟩ := ih (j + 1) (by omega) (wn_set E j (E j + 1)) (wn_set_le hE (by omega))
        exact ⟨E', h1, fun post h => br_f n4 (br_f ne ⟨vj, br_t f0 ⟨vj, br_f z ⟨vj, vj, nm_r eu (nm_r (nI_1 j) (hX post h))⟩⟩⟩), fun post h => br_f n4 (br_f ne ⟨vj, br_f n0 ⟨vj, br_f z ⟨vj, vj, nm_r eu (nm_r (nI_1 j) (hY post h))⟩⟩⟩)⟩
    · have f0 : ¬ fo (nI j).toNatClampNeg = 0 := by rw [ec, q1]; decide
      have n0 : on (nI j).toNatClampNeg = 0 := by rw [ec]; exact q2
      obtain ⟨E', h1, hX, hY⟩ := ih (j + 1) (by omega) E hE
      exact ⟨E', h1, fun post h => br_f n4 (br_f ne ⟨vj, br_f f0 (nm_r (nI_1 j) (hX post h))⟩), fun post h => br_f n4 (br_f ne ⟨vj, br_t n0 (nm_r (nI_1 j) (hY post h))⟩)⟩
variable {I L C B S E : Nat → Nat}
theorem wn_brk {p s : Nat} (hp : p < 16) (hs : ∀ i, S i ≤ s) (hs' : s < 100000000) (hE : ∀ i, E i ≤ 255) (hO : ∀ i, i < 4 → (fo i = 0 ∧ on i = 1) ∨ (fo i = 1 ∧ on i = 0)) :
    ∃ (S' E' : Nat → Nat) (fo' on' : Nat → Int32), (∀ i, S' i ≤ s + 8) ∧ (∀ i, E' i ≤ 255) ∧ (∀ i, i < 4 → (fo' i = 0 ∧ on' i = 1) ∨ (fo' i = 1 ∧ on' i = 0)) ∧
      (∀ post : SX → Prop, post (xt, xs, xe, 2, nI 14, xi, xg, xb, xc, (fun z => nI (I z)), (fun z => nI (L z)), ad, (fun z => nI (C z)), bf, bd, (fun z => nI (B z)), mi, fm, fv, fo', (fun z => nI (S' z)), (fun z => nI (E' z))) → wpX_breakOff post (xt, xs, xe, xw, xq, xi, xg, xb, xc, (fun z => nI (I z)), (fun z => nI (L z)), ad, (fun z => nI (C z)), bf, bd, (fun z => nI (B z)), mi, fm, fv, fo, (fun z => nI (S z)), (fun z => nI (E z))) (nI (p / 4))) ∧
      (∀ post : SY → Prop, post (xt, xs, ye, 2, nI 14, nI p, yg, yl, yu, yi, yo, ya, yn, yk, on', fm, fv, (fun z => nI (S' z)), (fun z => nI (E' z)), mi, (fun z => nI (C z)), (fun z => nI (16 * I z + L z)), ad, (fun z => nI (B z)), bf, bd) → wpY_breakOff post (xt, xs, ye, xw, yr, nI p, yg, yl, yu, yi, yo, ya, yn, yk, on, fm, fv, (fun z => nI (S z)), (fun z => nI (E z)), mi, (fun z => nI (C z)), (fun z => nI (16 * I z + L z)), ad, (fun z => nI (B z)), bf, bd)) := by
  have hm : p / 4 < 4 := by omega
  have vm : vp_in (nI (p / 4)) 4 := vp_in_nI hm (by decide)
  have ec : (nI (p / 4)).toNatClampNeg = p / 4 := nI_clamp (by omega)
  have hsm := hs (p / 4)
  have eS : upd (fun z => nI (S z)) (nI (p / 4)).toNatClampNeg (nI (S (nI (p / 4)).toNatClampNeg) + 8) = fun z => nI (wn_set S (p / 4) (S (p / 4) + 8) z) := by
    rw [wn_at S (by omega), show nI (S (p / 4)) + 8 = nI (S (p / 4) + 8) from nI_add _ 8]
    exact wn_uset (g := S) (by omega)
  have eS' : nI (wn_set S (p / 4) (S (p / 4) + 8) (nI (p / 4)).toNatClampNeg) = nI (S (p / 4) + 8) := by rw [ec, wn_set_s]
  obtain ⟨E', h1, hX, hY⟩ := wn_brkL (on := on) (fo := fo) hm hO 4 0 rfl E hE
  have hS' : ∀ i, wn_set S (p / 4) (S (p / 4) + 8) i ≤ s + 8 := wn_set_le (fun i => by have := hs i; omega) (by omega)
  by_cases h255 : S (p / 4) + 8 ≤ 255
  · have z : nI (wn_set S (p / 4) (S (p / 4) + 8) (nI (p / 4)).toNatClampNeg) ≤ 255 := by rw [eS']; exact nI_le (b := 255) h255 (by decide)
    refine ⟨wn_set S (p / 4) (S (p / 4) + 8), E', fo, on, hS', h1, hO, fun post h => ?_, fun post h => ?_⟩
    · exact ⟨5, hX post (br_t (by decide) ⟨vm, vm, nm_r eS ⟨vm, br_t z h⟩⟩)⟩
    · exact ⟨by decide, nm_r (wn_q p (by omega)).1 ⟨vm, vm, nm_r eS ⟨5, hY post (br_t (by decide) ⟨vm, br_t z h⟩)⟩⟩⟩
  · have z : ¬ nI (wn_set S (p / 4) (S (p / 4) + 8) (nI (p / 4)).toNatClampNeg) ≤ 255 := by rw [eS']; exact nI_ge (a := 255) (by omega) (by omega)
    have ef : upd fo (nI (p / 4)).toNatClampNeg (vp_nar .boolean 1) = upd fo (p / 4) 1 := by rw [ec, wn_nb1]
    have eo : upd on (nI (p / 4)).toNatClampNeg (vp_nar .boolean 0) = upd on (p / 4) 0 := by rw [ec, wn_nb0]
    refine ⟨wn_set S (p / 4) (S (p / 4) + 8), E', upd fo (p / 4) 1, upd on (p / 4) 0, hS', h1, ?_, fun post h => ?_, fun post h => ?_⟩
    · intro i hi
      by_cases e : i = p / 4
      · rw [e]
        exact Or.inr ⟨pk_us, pk_us⟩
      · rw [pk_un e, pk_un e]
        exact hO i hi
    · exact ⟨5, hX post (br_t (by decide) ⟨vm, vm, nm_r eS ⟨vm, br_f z ⟨vm, nm_r ef h⟩⟩⟩)⟩
    · exact ⟨by decide, nm_r (wn_q p (by omega)).1 ⟨vm, vm, nm_r eS ⟨5, hY post (br_t (by decide) ⟨vm, br_f z ⟨vm, nm_r eo h⟩⟩)⟩⟩⟩
/-- one frame comes to one node -/
theorem wn_del {p j hd : Nat} {dv : Int64} (hp : p < 16) (hj : j < 4) (hB : ∀ i, B i ≤ 6) (hw : wh (nI p).toNatClampNeg = nI hd) (ht : wt (nI p).toNatClampNeg = dv) :
    ∃ (bf' mi' : Nat → Int32) (bd' : Nat → Int64) (B' : Nat → Nat), (∀ i, B' i ≤ 6) ∧
      (∀ post : SX → Prop, post (xt, xs, xe, xw, xq, xi, xg, xb, xc, ai, al, ad, ac, bf', bd', (fun z => nI (B' z)), mi', fm, fv, fo, es, er) → wpX_deliver post (xt, xs, xe, xw, xq, xi, xg, xb, xc, ai, al, ad, ac, bf, bd, (fun z => nI (B z)), mi, fm, fv, fo, es, er) (nI j) (nI hd) dv) ∧
      (∀ post : SY → Prop, post (yt, ys, ye, yp, yr, nI p, yg, yl, yu, yi, yo, ya, yn, yk, on, fm, fv, se, re, mi', ww, wh, wt, (fun z => nI (B' z)), bf', bd') → wpY_deliver post (yt, ys, ye, yp, yr, nI p, yg, yl, yu, yi, yo, ya, yn, yk, on, fm, fv, se, re, mi, ww, wh, wt, (fun z => nI (B z)), bf, bd) (nI j)) := by
  have vj : vp_in (nI j) 4 := vp_in_nI hj (by decide)
  have vp : vp_in (nI p) 16 := vp_in_nI hp (by decide)
  have eb : nI (B (nI j).toNatClampNeg) = nI (B j) := wn_at B (by omega)
  have hb := hB j
  by_cases hf : ((nI hd / 16 ^^^ fv (nI j).toNatClampNeg) &&& fm (nI j).toNatClampNeg) = 0
  · by_cases h6 : B j < 6
    · have l6 : nI (B (nI j).toNatClampNeg) < 6 := by rw [eb]; exact nI_lt (b := 6) h6 (by decide)
      have n6 : ¬ nI (B (nI j).toNatClampNeg) = 6 := by rw [eb]; exact fun z => by have := (nI_eq (b := 6) (by omega) (by decide)).mp z; omega
      have e1 : nI j * 6 + nI (B (nI j).toNatClampNeg) = nI (6 * j + B j) := by
        rw [eb]
        show nI j * nI 6 + _ = _
        rw [pk_mul, nI_add, Nat.mul_comm]
      have e2 : 6 * nI j + nI (B (nI j).toNatClampNeg) = nI (6 * j + B j) := by
        rw [eb]
        show nI 6 * nI j + _ = _
        rw [pk_mul, nI_add]
      have v24 : vp_in (nI (6 * j + B j)) 24 := vp_in_nI (by omega) (by decide)
      have v24' : vp_in (6 * nI j + nI (B (nI j).toNatClampNeg)) 24 := pk_in (6 * j + B j) 24 (by omega) e2
      have ecnt : upd (fun z => nI (B z)) (nI j).toNatClampNeg (nI (B (nI j).toNatClampNeg) + 1) = fun z => nI (wn_set B j (B j + 1) z) := by
        rw [eb, nI_1]
        exact wn_uset (g := B) (by omega)
      refine ⟨upd bf (nI (6 * j + B j)).toNatClampNeg (nI hd), mi, vp_updL bd (nI (6 * j + B j)).toNatClampNeg dv, wn_set B j (B j + 1), wn_set_le hB (by omega), fun post h => ?_, fun post h => ?_⟩
      · exact ⟨by decide, nm_e ⟨vj, vj, br_t hf ⟨vj, br_t l6 ⟨vj, nm_r e1 ⟨v24, nm_e ⟨v24, nm_e ⟨vj, vj, nm_r ecnt h⟩⟩⟩⟩⟩⟩⟩
      · exact ⟨vp, nm_r hw ⟨by decide, vj, vj, br_t hf ⟨vj, br_f n6 ⟨vj, v24', nm_r (by rw [e2]) ⟨vj, vp, v24', nm_r (by rw [e2, ht]) ⟨vj, vj, nm_r ecnt h⟩⟩⟩⟩⟩⟩
    · have l6 : ¬ nI (B (nI j).toNatClampNeg) < 6 := by rw [eb]; exact nI_nlt (b := 6) (by omega) (by omega)
      have n6 : nI (B (nI j).toNatClampNeg) = 6 := by rw [eb, show B j = 6 by omega]; rfl
      refine ⟨bf, upd mi (nI j).toNatClampNeg (mi (nI j).toNatClampNeg + 1), bd, B, hB, fun post h => ?_, fun post h => ?_⟩
      · exact ⟨by decide, nm_e ⟨vj, vj, br_t hf ⟨vj, br_f l6 ⟨vj, vj, nm_e h⟩⟩⟩⟩
      · exact ⟨vp, nm_r hw ⟨by decide, vj, vj, br_t hf ⟨vj, br_t n6 ⟨vj, vj, nm_e h⟩⟩⟩⟩
  · refine ⟨bf, mi, bd, B, hB, fun post h => ?_, fun post h => ?_⟩
    · exact ⟨by decide, nm_e ⟨vj, vj, br_f hf h⟩⟩
    · exact ⟨vp, nm_r hw ⟨by decide, vj, vj, br_f hf h⟩⟩
theorem wn_one {s : Nat} {x : Int32} {post : Int32 → Prop} (hs : s < 2 ^ 31) (hx : x = nI s) (h : post (nI (s - 1))) : wpX_oneLess post x := by
  subst hx
  unfold wpX_oneLess
  by_cases e : s = 0
  · subst e
    exact br_t (by decide) h
  · refine br_f (nI_nle (by omega) hs) ?_
    rw [show nI s - 1 = nI (s - 1) from pk_sub (b := 1) (by omega)]
    exact h
theorem wn_finL {m p hd : Nat} {dv : Int64} (hp : p < 16) (hm : m < 4) (hO : ∀ i, i < 4 → (fo i = 0 ∧ on i = 1) ∨ (fo i = 1 ∧ on i = 0)) (hw : wh (nI p).toNatClampNeg = nI hd) (ht : wt (nI p).toNatClampNeg = dv) :
    ∀ d j, j + d = 4 → ∀ (E B : Nat → Nat) (bf mi : Nat → Int32) (bd : Nat → Int64), (∀ i, E i ≤ 255) → (∀ i, B i ≤ 6) → ∃ (E' B' : Nat → Nat) (bf' mi' : Nat → Int32) (bd' : Nat → Int64), (∀ i, E' i ≤ 255) ∧ (∀ i, B' i ≤ 6) ∧
      (∀ post : SX → Prop, wX_finish_33 post (nI m) (nI hd) dv 1 4 xt xs xe xw xq xi xg xb xc ai al ad ac bf' bd' (fun z => nI (B' z)) mi' fm fv fo es (fun z => nI (E' z)) → wX_finish_33 post (nI m) (nI hd) dv (d + 1) (nI j) xt xs xe xw xq xi xg xb xc ai al ad ac bf bd (fun z => nI (B z)) mi fm fv fo es (fun z => nI (E z))) ∧
      (∀ post : SY → Prop, wY_finish_28 post (nI m) 1 4 yt ys ye yp yr (nI p) yg yl yu yi yo ya yn yk on fm fv se (fun z => nI (E' z)) mi' ww wh wt (fun z => nI (B' z)) bf' bd' → wY_finish_28 post (nI m) (d + 1) (nI j) yt ys ye yp yr (nI p) yg yl yu yi yo ya yn yk on fm fv se (fun z => nI (E z)) mi ww wh wt (fun z => nI (B z)) bf bd) := by
  intro d
  induction d with
  | zero =>
    intro j hj E B bf mi bd hE hB
    have e : j = 4 := by omega
    subst e
    exact ⟨E, B, bf, mi, bd, hE, hB, fun _ h => h, fun _ h => h⟩
  | succ d ih =>
    intro j hj E B bf mi bd hE hB
    have n4 : ¬ (4 : Int32) ≤ nI j := nI_ge (b := 4) (by omega) (by decide)
    have vj : vp_in (nI j) 4 := vp_in_nI (by omega) (by decide)
    have ec : (nI j).toNatClampNeg = j := nI_clamp (by omega)
    by_cases e : j = m
    · obtain ⟨E', B', bf', mi', bd', h1, h2, hX, hY⟩ := ih (j + 1) (by omega) E B bf mi bd hE hB
      exact ⟨E', B', bf', mi', bd', h1, h2, fun post h => br_f n4 (br_t (congrArg nI e) (nm_r (nI_1 j) (hX post h))), fun post h => br_f n4 (br_t (congrArg nI e) (nm_r (nI_1 j) (hY post h)))⟩
    have ne : ¬ nI j = nI m := fun z => e ((nI_eq (by omega) (by omega)).mp z)
    rcases hO j (by omega) with ⟨q1, q2⟩ | ⟨q1, q2⟩
    · have f0 : fo (nI j).toNatClampNeg = 0 := by rw [ec]; exact q1
      have n0 : ¬ on (nI j).toNatClampNeg = 0 := by rw [ec, q2]; decide
      have hej := hE j
      have ee : nI (E (nI j).toNatClampNeg) = nI (E j) := wn_at E (by omega)
      obtain ⟨bf1, mi1, bd1, B1, k1, kX, kY⟩ := wn_del (hd := hd) hp (show j < 4 by omega) hB hw ht
      obtain ⟨E', B', bf', mi', bd', h1, h2, hX, hY⟩ := ih (j + 1) (by omega) (wn_set E j (E j - 1)) B1 bf1 mi1 bd1 (wn_set_le hE (by omega)) k1
      refine ⟨E', B', bf', mi', bd', h1, h2, fun post h => br_f n4 (br_f ne ⟨vj, br_t f0 (kX _ ?_)⟩), fun post h => br_f n4 (br_f ne ⟨vj, br_f n0 (kY _ ?_)⟩)⟩
      · exact ⟨vj, wn_one (by omega) ee ⟨vj, nm_r (wn_uset (g := E) (by omega)) (nm_r (nI_1 j) (hX post h))⟩⟩
      · by_cases e0 : E j = 0
        · refine ⟨vj, br_t (show nI (E (nI j).toNatClampNeg) ≤ 0 by rw [ee, e0]; decide) (nm_r (nI_1 j) ?_)⟩
          have := hY post h
          rw [wn_sn (show E j = E j - 1 by omega)] at this
          exact this
        · refine ⟨vj, br_f (show ¬ nI (E (nI j).toNatClampNeg) ≤ 0 by rw [ee]; exact nI_nle (by omega) (by omega)) ⟨vj, vj, nm_r ?_ (nm_r (nI_1 j) (hY post h))⟩⟩
          show upd (fun z => nI (E z)) (nI j).toNatClampNeg (nI (E (nI j).toNatClampNeg) - 1) = _
          rw [ee, show nI (E j) - 1 = nI (E j - 1) from pk_sub (b := 1) (by omega)]
          exact wn_uset (g := E) (by omega)
    · have f0 : ¬ fo (nI j).toNatClampNeg = 0 := by rw [ec, q1]; decide
      have n0 : on (nI j).toNatClampNeg = 0 := by rw [ec]; exact q2
      obtain ⟨E', B', bf', mi', bd', h1, h2, hX, hY⟩ := ih (j + 1) (by omega) E B bf mi bd hE hB
      exact ⟨E', B', bf', mi', bd', h1, h2, fun post h => br_f n4 (br_f ne ⟨vj, br_f f0 (nm_r (nI_1 j) (hX post h))⟩), fun post h => br_f n4 (br_f ne ⟨vj, br_t n0 (nm_r (nI_1 j) (hY post h))⟩)⟩
theorem wn_fin {p s : Nat} (hp : p < 16) (htk : wn_tk C p) (hI : ∀ i, I i < 2048) (hL : ∀ i, L i ≤ 8) (hC : ∀ i, C i ≤ 4) (hB : ∀ i, B i ≤ 6) (hs : ∀ i, S i ≤ s) (hs' : s < 100000000) (hE : ∀ i, E i ≤ 255) (hO : ∀ i, i < 4 → (fo i = 0 ∧ on i = 1) ∨ (fo i = 1 ∧ on i = 0)) :
    ∃ (S' E' B' : Nat → Nat) (bf' mi' : Nat → Int32) (bd' : Nat → Int64), (∀ i, S' i ≤ s) ∧ (∀ i, E' i ≤ 255) ∧ (∀ i, B' i ≤ 6) ∧
      (∀ post : SX → Prop, post (xt, xs + 1, xe, 3, nI 3, xi, xg, xb, xc, (fun z => nI ((wn_shf p (wn_end C p) I) z)), (fun z => nI ((wn_shf p (wn_end C p) L) z)), wn_shf p (wn_end C p) ad, (fun z => nI ((wn_C1 C (p / 4)) z)), bf', bd', (fun z => nI (B' z)), mi', fm, fv, fo, (fun z => nI (S' z)), (fun z => nI (E' z))) → wpX_finish post (xt, xs, xe, xw, xq, xi, xg, xb, xc, (fun z => nI (I z)), (fun z => nI (L z)), ad, (fun z => nI (C z)), bf, bd, (fun z => nI (B z)), mi, fm, fv, fo, (fun z => nI (S z)), (fun z => nI (E z))) (nI p) (nI (p / 4))) ∧
      (∀ post : SY → Prop, post (xt, xs + 1, ye, 3, nI 3, nI p, yg, yl, yu, yi, yo, ya, yn, yk, on, fm, fv, (fun z => nI (S' z)), (fun z => nI (E' z)), mi', (fun z => nI ((wn_C1 C (p / 4)) z)), (fun z => nI (16 * (wn_shf p (wn_end C p) I) z + (wn_shf p (wn_end C p) L) z)), wn_shf p (wn_end C p) ad, (fun z => nI (B' z)), bf', bd') → wpY_finish post (xt, xs, ye, xw, yr, nI p, yg, yl, yu, yi, yo, ya, yn, yk, on, fm, fv, (fun z => nI (S z)), (fun z => nI (E z)), mi, (fun z => nI (C z)), (fun z => nI (16 * I z + L z)), ad, (fun z => nI (B z)), bf, bd)) := by
  have hm : p / 4 < 4 := by omega
  have vp : vp_in (nI p) 16 := vp_in_nI hp (by decide)
  have vm : vp_in (nI (p / 4)) 4 := vp_in_nI hm (by decide)
  have ec : (nI p).toNatClampNeg = p := nI_clamp (by omega)
  have hsm := hs (p / 4)
  have es1 : nI (S (nI (p / 4)).toNatClampNeg) = nI (S (p / 4)) := wn_at S (by omega)
  have e16 : 16 * nI (I (nI p).toNatClampNeg) + nI (L (nI p).toNatClampNeg) = nI (16 * I p + L p) := by
    rw [ec]
    show nI 16 * nI (I p) + _ = _
    rw [pk_mul, nI_add]
  obtain ⟨E', B', bf', mi', bd', h1, h2, hX, hY⟩ := wn_finL (fo := fo) (on := on) (m := p / 4) (hd := 16 * I p + L p) (wh := fun z => nI (16 * I z + L z)) (wt := ad) (dv := ad (nI p).toNatClampNeg) hp hm hO (by rw [ec]) rfl 4 0 rfl E B bf mi bd hE hB
  refine ⟨wn_set S (p / 4) (S (p / 4) - 1), E', B', bf', mi', bd', wn_set_le hs (by omega), h1, h2, fun post h => ?_, fun post h => ?_⟩
  · unfold wpX_finish
    refine ⟨vp, vp, nm_r e16 ⟨vp, nm_e (wn_rmXP hC hp htk ⟨5, hX _ (br_t (by decide) ⟨vm, wn_one (by omega) es1 ⟨vm, nm_r (wn_uset (g := S) (by omega)) (nm_e h)⟩⟩)⟩)⟩⟩
  · have fn : ∀ S2 : Nat → Nat, S2 = wn_set S (p / 4) (S (p / 4) - 1) → wY_finish_28 post (nI (p / 4)) 5 0 xt xs ye xw yr (nI p) yg yl yu yi yo ya yn yk on fm fv (fun z => nI (S2 z)) (fun z => nI (E z)) mi (fun z => nI (C z)) (fun z => nI (16 * I z + L z)) ad (fun z => nI (B z)) bf bd := by
      intro S2 e
      subst e
      exact hY _ (br_t (by decide) (wn_rmYP hC hp htk (by decide) (nm_e h)))
    unfold wpY_finish
    refine ⟨by decide, nm_r (wn_q p (by omega)).1 ⟨vm, ?_⟩⟩
    by_cases e0 : S (p / 4) = 0
    · exact br_t (show nI (S (nI (p / 4)).toNatClampNeg) ≤ 0 by rw [es1, e0]; decide) ⟨5, fn S (wn_sn (by omega)).symm⟩
    · refine br_f (show ¬ nI (S (nI (p / 4)).toNatClampNeg) ≤ 0 by rw [es1]; exact nI_nle (by omega) (by omega)) ⟨vm, vm, nm_r ?_ ⟨5, fn _ rfl⟩⟩
      show upd (fun z => nI (S z)) (nI (p / 4)).toNatClampNeg (nI (S (nI (p / 4)).toNatClampNeg) - 1) = _
      rw [es1, show nI (S (p / 4)) - 1 = nI (S (p / 4) - 1) from pk_sub (b := 1) (by omega)]
      exact wn_uset (g := S) (by omega)
end
end
section
/-! one bit time, and run -/
section
variable {xt xs xe xw xq xi xg xb xc : Int32} {ai al ac bf bc mi fm fv fo es er : Nat → Int32} {ad bd : Nat → Int64}
variable {yt ys ye yp yr yf yg yl yu yi yo ya yn yk : Int32} {on ma va se re ms ww wh bn bh : Nat → Int32} {wt bx : Nat → Int64}
variable {I L C B S E : Nat → Nat} {p : Nat}
theorem wn_alone (hp : p < 16) (hO : ∀ i, i < 4 → (fo i = 0 ∧ on i = 1) ∨ (fo i = 1 ∧ on i = 0)) : ∀ d j, j + d = 4 → ∃ t : Bool,
      (∀ post : Int32 → Prop, post (if t then 1 else 0) → wX_isAnotherOn_2 post (nI (p / 4)) xt xs xe xw xq xi xg xb xc ai al ad ac bf bd bc mi fm fv fo es er (d + 1) (nI j)) ∧
      (∀ post : Int32 → Prop, post (if t then 0 else 1) → wY_isAlone_2 post yt ys ye yp yr (nI p) yg yl yu yi yo ya yn yk on ma va se re ms ww wh wt bn bh bx (d + 1) (nI j)) := by
  intro d
  induction d with
  | zero =>
    intro j hj
    have e : j = 4 := by omega
    subst e
    exact ⟨false, fun _ h => br_t (by decide) h, fun _ h => br_t (by decide) h⟩
  | succ d ih =>
    intro j hj
    obtain ⟨t, hX, hY⟩ := ih (j + 1) (by omega)
    have n4 : ¬ (4 : Int32) ≤ nI j := nI_ge (b := 4) (by omega) (by decide)
    have vj : vp_in (nI j) 4 := vp_in_nI (by omega) (by decide)
    have ec : (nI j).toNatClampNeg = j := nI_clamp (by omega)
    have eq := (wn_q p (by omega)).1
    by_cases e : j = p / 4
    · have e' : nI j = nI p / 4 := by rw [eq, e]
      exact ⟨t, fun post h => br_f n4 (br_t (congrArg nI e) (nm_r (nI_1 j) (hX post h))), fun post h => br_f n4 ⟨vj, br_c (fun _ => nm_r (nI_1 j) (hY post h)) (fun _ => ⟨by decide, br_t e' (nm_r (nI_1 j) (hY post h))⟩)⟩⟩
    have ne : ¬ nI j = nI (p / 4) := fun z => e ((nI_eq (by omega) (by omega)).mp z)
    have ne' : ¬ nI j = nI p / 4 := by rw [eq]; exact ne
    rcases hO j (by omega) with ⟨q1, q2⟩ | ⟨q1, q2⟩
    · exact ⟨true, fun post h => br_f n4 (br_f ne ⟨vj, br_t (by rw [ec]; exact q1) h⟩), fun post h => br_f n4 ⟨vj, br_f (by rw [ec, q2]; decide) ⟨by decide, br_f ne' h⟩⟩⟩
    · exact ⟨t, fun post h => br_f n4 (br_f ne ⟨vj, br_f (by rw [ec, q1]; decide) (nm_r (nI_1 j) (hX post h))⟩), fun post h => br_f n4 ⟨vj, br_t (by rw [ec]; exact q2) (nm_r (nI_1 j) (hY post h))⟩⟩
variable {g b q : Nat} {z : Int32}
/-- the place of the frame under way is found -/
theorem wn_pf {post : SX → Prop} {r : Int32} (hp : p < 16) (ht : wn_tk C p) (hI : ∀ i, I i < 2048) (hC : ∀ i, C i ≤ 4) (hd : wn_dis I C)
    (hb : ∀ pb : Int32 → Prop, pb r → wpX_isBrokenOff pb (xt, xs, xe, xw, xq, nI (I p), nI (g + 1), nI b, nI (q + 10), (fun z => nI (I z)), (fun z => nI (L z)), ad, (fun z => nI (C z)), bf, bd, (fun z => nI (B z)), mi, fm, fv, fo, (fun z => nI (S z)), (fun z => nI (E z))) (nI (p / 4)) z)
    (h : (r = 0 → ((nI (g + 1) = nI (q + 10) → wpX_finish post (xt, xs, xe, xw, xq, nI (I p), nI (g + 1), nI b, nI (q + 10), (fun z => nI (I z)), (fun z => nI (L z)), ad, (fun z => nI (C z)), bf, bd, (fun z => nI (B z)), mi, fm, fv, fo, (fun z => nI (S z)), (fun z => nI (E z))) (nI p) (nI (p / 4))) ∧ (¬ nI (g + 1) = nI (q + 10) → post (xt, xs, xe, xw, xq, nI (I p), nI (g + 1), nI b, nI (q + 10), (fun z => nI (I z)), (fun z => nI (L z)), ad, (fun z => nI (C z)), bf, bd, (fun z => nI (B z)), mi, fm, fv, fo, (fun z => nI (S z)), (fun z => nI (E z)))))) ∧ (¬ r = 0 → wpX_breakOff post (xt, xs, xe, xw, xq, nI (I p), nI (g + 1), nI b, nI (q + 10), (fun z => nI (I z)), (fun z => nI (L z)), ad, (fun z => nI (C z)), bf, bd, (fun z => nI (B z)), mi, fm, fv, fo, (fun z => nI (S z)), (fun z => nI (E z))) (nI (p / 4)))) :
    wpX_passFrameBit post (xt, xs, xe, xw, xq, nI (I p), nI g, nI b, nI (q + 10), (fun z => nI (I z)), (fun z => nI (L z)), ad, (fun z => nI (C z)), bf, bd, (fun z => nI (B z)), mi, fm, fv, fo, (fun z => nI (S z)), (fun z => nI (E z))) z := by
  have hm : (fun u : SX => match u with | (xt, xs, xe, xw, xq, xi, xg, xb, xc, ai, al, ad, ac, bf, bd, bc, mi, fm, fv, fo, es, er) => post (xt, xs, xe, xw, xq, xi, xg, xb, xc, ai, al, ad, ac, bf, bd, bc, mi, fm, fv, fo, es, er)) = post := by
    funext u
    obtain ⟨xt, xs, xe, xw, xq, xi, xg, xb, xc, ai, al, ad, ac, bf, bd, bc, mi, fm, fv, fo, es, er⟩ := u
    rfl
  unfold wpX_passFrameBit
  refine wn_findX hC hI (hI p) (fun p' hp' ht' e => ?_) (fun hn => absurd rfl (hn p hp ht))
  have ep : p' = p := hd p' p hp' hp ht' ht e
  subst ep
  refine br_f (wn_ne2 (by omega)) ⟨by decide, nm_r (wn_q p' (by omega)).1 (nm_r (nI_1 g) (hb _ ?_))⟩
  rw [hm]
  exact h
theorem wn_yb0 {T H : Nat} {post : SY → Prop} (hT : T < 2000000) (hH : H < 3000000) (hg : g < 10000) (hb : b < 10000) (hq : q < 10000) (hn : ¬ (H = T + 1 ∧ b < g + 1 ∧ g + 1 ≤ q + 1))
    (h : wY_nextBit_50 post 0 (nI (T + 1)) xs (nI H) xw yr yf (nI (g + 1)) (nI b) (nI q) yi yo ya yn yk on fm fv (fun z => nI (S z)) (fun z => nI (E z)) mi (fun z => nI (C z)) (fun z => nI (16 * I z + L z)) ad (fun z => nI (B z)) bf bd) : wpY_nextBit post (nI (T + 1), xs, nI H, xw, yr, yf, nI g, nI b, nI q, yi, yo, ya, yn, yk, on, fm, fv, (fun z => nI (S z)), (fun z => nI (E z)), mi, (fun z => nI (C z)), (fun z => nI (16 * I z + L z)), ad, (fun z => nI (B z)), bf, bd) := by
  unfold wpY_nextBit
  refine nm_r (nI_1 g) (pk_eq H (T + 1) (fun e1 => pk_le (g + 1) b (fun _ => h) (fun e2 => pk_lt (q + 1) (g + 1) (fun _ => h) (fun e3 => absurd ⟨e1, e2, e3⟩ hn) (nI_1 q) rfl (by omega) (by omega)) rfl rfl (by omega) (by omega)) (fun _ => h) rfl rfl (by omega) (by omega))
theorem wn_yb1 {T H : Nat} {post : SY → Prop} (hT : T < 2000000) (hH : H = T + 1) (hg : g < 10000) (hb : b < g + 1) (hq : q < 10000) (hn : g + 1 ≤ q + 1)
    (h : wpY_breakOff post (nI (T + 1), xs, nI H, xw, yr, yf, nI (g + 1), nI b, nI q, yi, yo, ya, yn, yk, on, fm, fv, (fun z => nI (S z)), (fun z => nI (E z)), mi, (fun z => nI (C z)), (fun z => nI (16 * I z + L z)), ad, (fun z => nI (B z)), bf, bd)) : wpY_nextBit post (nI (T + 1), xs, nI H, xw, yr, yf, nI g, nI b, nI q, yi, yo, ya, yn, yk, on, fm, fv, (fun z => nI (S z)), (fun z => nI (E z)), mi, (fun z => nI (C z)), (fun z => nI (16 * I z + L z)), ad, (fun z => nI (B z)), bf, bd) := by
  have hm : (fun u : SY => match u with | (yt, ys, ye, yp, yr, yf, yg, yl, yu, yi, yo, ya, yn, yk, on, ma, va, se, re, ms, ww, wh, wt, bn, bh, bx) => post (yt, ys, ye, yp, yr, yf, yg, yl, yu, yi, yo, ya, yn, yk, on, ma, va, se, re, ms, ww, wh, wt, bn, bh, bx)) = post := by
    funext u
    obtain ⟨yt, ys, ye, yp, yr, yf, yg, yl, yu, yi, yo, ya, yn, yk, on, ma, va, se, re, ms, ww, wh, wt, bn, bh, bx⟩ := u
    rfl
  unfold wpY_nextBit
  refine nm_r (nI_1 g) (br_t (congrArg nI hH) (br_f (nI_ge (by omega) (by omega)) (br_f (show ¬ nI q + 1 < nI (g + 1) by rw [nI_1]; exact nI_nlt (by omega) (by omega)) ?_)))
  unfold wY_nextBit_50
  refine br_f (by decide) ?_
  unfold wY_nextBit_75
  rw [hm]
  exact h
/-- what follows where the frame isn't hit -/
theorem wn_n82 {post : SY → Prop} (h : (yg = yu + 10 → wpY_finish post (yt, ys, ye, yp, yr, yf, yg, yl, yu, yi, yo, ya, yn, yk, on, ma, va, se, re, ms, ww, wh, wt, bn, bh, bx)) ∧ (¬ yg = yu + 10 → post (yt, ys, ye, yp, yr, yf, yg, yl, yu, yi, yo, ya, yn, yk, on, ma, va, se, re, ms, ww, wh, wt, bn, bh, bx))) : wY_nextBit_82 post yt ys ye yp yr yf yg yl yu yi yo ya yn yk on ma va se re ms ww wh wt bn bh bx := by
  have hm : (fun u : SY => match u with | (yt, ys, ye, yp, yr, yf, yg, yl, yu, yi, yo, ya, yn, yk, on, ma, va, se, re, ms, ww, wh, wt, bn, bh, bx) => post (yt, ys, ye, yp, yr, yf, yg, yl, yu, yi, yo, ya, yn, yk, on, ma, va, se, re, ms, ww, wh, wt, bn, bh, bx)) = post := by
    funext u
    obtain ⟨yt, ys, ye, yp, yr, yf, yg, yl, yu, yi, yo, ya, yn, yk, on, ma, va, se, re, ms, ww, wh, wt, bn, bh, bx⟩ := u
    rfl
  unfold wY_nextBit_82
  rw [hm]
  exact h
theorem wn_n75 {post : SY → Prop} (h : wpY_breakOff post (yt, ys, ye, yp, yr, yf, yg, yl, yu, yi, yo, ya, yn, yk, on, ma, va, se, re, ms, ww, wh, wt, bn, bh, bx)) : wY_nextBit_75 post yt ys ye yp yr yf yg yl yu yi yo ya yn yk on ma va se re ms ww wh wt bn bh bx := by
  have hm : (fun u : SY => match u with | (yt, ys, ye, yp, yr, yf, yg, yl, yu, yi, yo, ya, yn, yk, on, ma, va, se, re, ms, ww, wh, wt, bn, bh, bx) => post (yt, ys, ye, yp, yr, yf, yg, yl, yu, yi, yo, ya, yn, yk, on, ma, va, se, re, ms, ww, wh, wt, bn, bh, bx)) = post := by
    funext u
    obtain ⟨yt, ys, ye, yp, yr, yf, yg, yl, yu, yi, yo, ya, yn, yk, on, ma, va, se, re, ms, ww, wh, wt, bn, bh, bx⟩ := u
    rfl
  unfold wY_nextBit_75
  rw [hm]
  exact h
end
/-- the reference's bit time, at the hour that has come -/
def wn_st (post : SY → Prop) (v : SY) : Prop := match v with
  | (yt, ys, ye, yp, yr, yf, yg, yl, yu, yi, yo, ya, yn, yk, on, ma, va, se, re, ms, ww, wh, wt, bn, bh, bx) => (yp = 0 → wpY_begin post (yt, ys, ye, yp, yr, yf, yg, yl, yu, yi, yo, ya, yn, yk, on, ma, va, se, re, ms, ww, wh, wt, bn, bh, bx)) ∧ (¬ yp = 0 → ((yp = 1 → wpY_nextBit post (yt, ys, ye, yp, yr, yf, yg, yl, yu, yi, yo, ya, yn, yk, on, ma, va, se, re, ms, ww, wh, wt, bn, bh, bx)) ∧ (¬ yp = 1 → wpY_goOn post (yt, ys, ye, yp, yr, yf, yg, yl, yu, yi, yo, ya, yn, yk, on, ma, va, se, re, ms, ww, wh, wt, bn, bh, bx))))
section
variable {T D H : Nat} {xs xw xq xi xg xb xc yr yf yg yl yu yi yo ya yn yk : Int32} {I L C B S E : Nat → Nat} {ad bd : Nat → Int64} {bf mi fm fv fo on : Nat → Int32}
/-- a frame's next bit -/
theorem wn_bit1 {p g b q : Nat} {z : Int32} (hT : T < 2000000) (G : wn_G T D H I L C B S E fo on) (hz : (z = 1 ∧ H = T + 1) ∨ (z = 0 ∧ H ≠ T + 1)) (hp : p < 16) (ht : wn_tk C p) (hb : b ≤ 1000) (hq1 : 1 ≤ q) (hq : q ≤ 1000) (hg : g ≤ q + 9) :
    ∃ u' v', wn_R (T + 1) u' v' ∧ (∀ post : SX → Prop, post u' → wpX_passFrameBit post (nI (T + 1), xs, nI (D - 1), 1, xq, nI (I p), nI g, nI b, nI (q + 10), (fun z => nI (I z)), (fun z => nI (L z)), ad, (fun z => nI (C z)), bf, bd, (fun z => nI (B z)), mi, fm, fv, fo, (fun z => nI (S z)), (fun z => nI (E z))) z) ∧
      (∀ post : SY → Prop, post v' → wpY_nextBit post (nI (T + 1), xs, nI H, 1, yr, nI p, nI g, nI b, nI q, yi, yo, ya, yn, yk, on, fm, fv, (fun z => nI (S z)), (fun z => nI (E z)), mi, (fun z => nI (C z)), (fun z => nI (16 * I z + L z)), ad, (fun z => nI (B z)), bf, bd)) := by
  obtain ⟨⟨g1, g2, g3⟩, hI, hL, hC, hB, hS, hE, hO, hd⟩ := G
  have hH : H < 3000000 := by
    by_cases e : D = 0
    · have := g2 e; omega
    · have := g3 (by omega); omega
  have g1' : D - 1 ≤ 1000 ∧ (D - 1 = 0 → H ≤ T + 1) ∧ (0 < D - 1 → H = T + 1 + (D - 1)) := by
    by_cases e : D = 0
    · have := g2 e; omega
    · have := g3 (by omega); omega
  have hS1 : ∀ m, S m ≤ 8 * (T + 1) := fun m => by have := hS m; omega
  have keep : wn_R (T + 1) (nI (T + 1), xs, nI (D - 1), 1, xq, nI (I p), nI (g + 1), nI b, nI (q + 10), (fun z => nI (I z)), (fun z => nI (L z)), ad, (fun z => nI (C z)), bf, bd, (fun z => nI (B z)), mi, fm, fv, fo, (fun z => nI (S z)), (fun z => nI (E z))) (nI (T + 1), xs, nI H, 1, yr, nI p, nI (g + 1), nI b, nI q, yi, yo, ya, yn, yk, on, fm, fv, (fun z => nI (S z)), (fun z => nI (E z)), mi, (fun z => nI (C z)), (fun z => nI (16 * I z + L z)), ad, (fun z => nI (B z)), bf, bd) ∨ g + 1 = q + 10 := by
    by_cases e : g + 1 = q + 10
    · exact Or.inr e
    · exact Or.inl (wn_mk ⟨g1', hI, hL, hC, hB, hS1, hE, hO, hd⟩ (Or.inr (Or.inl ⟨rfl, p, g + 1, b, q, hp, ht, rfl, rfl, rfl, rfl, rfl, rfl, rfl, rfl, hb, hq1, hq, by omega⟩)))
  obtain ⟨S', E', fo', on', k1, k2, k3, kX, kY⟩ := wn_brk (I := I) (L := L) (C := C) (B := B) (xt := nI (T + 1)) (xs := xs) (xe := nI (D - 1)) (xw := 1) (xq := xq) (xi := nI (I p)) (xg := nI (g + 1)) (xb := nI b) (xc := nI (q + 10)) (ye := nI H) (yr := yr) (yg := nI (g + 1)) (yl := nI b) (yu := nI q) (yi := yi) (yo := yo) (ya := ya) (yn := yn) (yk := yk) (ad := ad) (bd := bd) (bf := bf) (mi := mi) (fm := fm) (fv := fv) (s := 8 * T) hp hS (by omega) hE hO
  have brk : wn_R (T + 1) (nI (T + 1), xs, nI (D - 1), 2, nI 14, nI (I p), nI (g + 1), nI b, nI (q + 10), (fun z => nI (I z)), (fun z => nI (L z)), ad, (fun z => nI (C z)), bf, bd, (fun z => nI (B z)), mi, fm, fv, fo', (fun z => nI (S' z)), (fun z => nI (E' z))) (nI (T + 1), xs, nI H, 2, nI 14, nI p, nI (g + 1), nI b, nI q, yi, yo, ya, yn, yk, on', fm, fv, (fun z => nI (S' z)), (fun z => nI (E' z)), mi, (fun z => nI (C z)), (fun z => nI (16 * I z + L z)), ad, (fun z => nI (B z)), bf, bd) :=
    wn_mk ⟨g1', hI, hL, hC, hB, fun m => by have := k1 m; omega, k2, k3, hd⟩ (Or.inr (Or.inr ⟨Or.inl rfl, 14, by decide, by decide, rfl, rfl⟩))
  have e8 : nI (q + 10) - 8 = nI (q + 2) := (pk_sub (b := 8) (by omega)).trans (congrArg nI (by omega))
  have e9 : nI (q + 10) - 9 = nI (q + 1) := (pk_sub (b := 9) (by omega)).trans (congrArg nI (by omega))
  have e2 : nI q + 2 = nI (q + 2) := nI_add q 2
  have e10 : nI q + 10 = nI (q + 10) := nI_add q 10
  by_cases hA : g + 1 = q + 2
  · have hk := keep.resolve_right (by omega)
    have nh : ¬ (H = T + 1 ∧ b < g + 1 ∧ g + 1 ≤ q + 1) := by omega
    obtain ⟨t, aX, aY⟩ := wn_alone (xt := nI (T + 1)) (xs := xs) (xe := nI (D - 1)) (xw := 1) (xq := xq) (xi := nI (I p)) (xg := nI (g + 1)) (xb := nI b) (xc := nI (q + 10)) (ai := fun z => nI (I z)) (al := fun z => nI (L z)) (ad := ad) (ac := fun z => nI (C z)) (bf := bf) (bd := bd) (bc := fun z => nI (B z)) (mi := mi) (fm := fm) (fv := fv) (es := fun z => nI (S z)) (er := fun z => nI (E z))
      (yt := nI (T + 1)) (ys := xs) (ye := nI H) (yp := 1) (yr := yr) (yg := nI (g + 1)) (yl := nI b) (yu := nI q) (yi := yi) (yo := yo) (ya := ya) (yn := yn) (yk := yk) (ma := fm) (va := fv) (se := fun z => nI (S z)) (re := fun z => nI (E z)) (ms := mi) (ww := fun z => nI (C z)) (wh := fun z => nI (16 * I z + L z)) (wt := ad) (bn := fun z => nI (B z)) (bh := bf) (bx := bd) hp hO 4 0 rfl
    cases t with
    | true =>
      refine ⟨_, _, hk, fun post h => wn_pf (r := 0) hp ht hI hC hd (fun pb h2 => ?_) (br_t rfl (br_f (fun w => by have := (nI_eq (by omega) (by omega)).mp w; omega) h)), fun post h => wn_yb0 hT hH (by omega) (by omega) (by omega) nh ?_⟩
      · unfold wpX_isBrokenOff
        exact br_t (by rw [e8, hA]) ⟨5, aX _ (br_f (by decide) h2)⟩
      · unfold wY_nextBit_50
        exact br_t rfl (br_t (by rw [e2, hA]) ⟨5, aY _ (br_t rfl (wn_n82 (br_f (by rw [e10]; exact fun w => by have := (nI_eq (by omega) (by omega)).mp w; omega) h)))⟩)
    | false =>
      refine ⟨_, _, brk, fun post h => wn_pf (r := 1) hp ht hI hC hd (fun pb h2 => ?_) (br_f (by decide) (kX post h)), fun post h => wn_yb0 hT hH (by omega) (by omega) (by omega) nh ?_⟩
      · unfold wpX_isBrokenOff
        exact br_t (by rw [e8, hA]) ⟨5, aX _ (br_t rfl h2)⟩
      · unfold wY_nextBit_50
        exact br_t rfl (br_t (by rw [e2, hA]) ⟨5, aY _ (br_f (by decide) (wn_n75 (kY post h)))⟩)
  have hA8 : ¬ nI (g + 1) = nI (q + 10) - 8 := by rw [e8]; exact fun w => hA ((nI_eq (by omega) (by omega)).mp w)
  have hA2 : ¬ nI (g + 1) = nI q + 2 := by rw [e2]; exact fun w => hA ((nI_eq (by omega) (by omega)).mp w)
  by_cases hit : z = 1 ∧ b < g + 1 ∧ g + 1 ≤ q + 1
  · obtain ⟨z1, z2, z3⟩ := hit
    have hH1 : H = T + 1 := by
      rcases hz with w | w
      · exact w.2
      · rw [z1] at w
        exact absurd w.1 (by decide)
    refine ⟨_, _, brk, fun post h => wn_pf (r := 1) hp ht hI hC hd (fun pb h2 => ?_) (br_f (by decide) (kX post h)), fun post h => wn_yb1 hT hH1 (by omega) z2 (by omega) z3 (kY post h)⟩
    unfold wpX_isBrokenOff
    exact br_f hA8 (br_f (by rw [z1]; decide) (br_f (nI_ge z2 (by omega)) (br_f (by rw [e9]; exact nI_nlt z3 (by omega)) h2)))
  · have nh : ¬ (H = T + 1 ∧ b < g + 1 ∧ g + 1 ≤ q + 1) := by
      rcases hz with w | w
      · exact fun y => hit ⟨w.1, y.2⟩
      · exact fun y => w.2 y.1
    have hbX : ∀ pb : Int32 → Prop, pb 0 → wpX_isBrokenOff pb (nI (T + 1), xs, nI (D - 1), 1, xq, nI (I p), nI (g + 1), nI b, nI (q + 10), (fun z => nI (I z)), (fun z => nI (L z)), ad, (fun z => nI (C z)), bf, bd, (fun z => nI (B z)), mi, fm, fv, fo, (fun z => nI (S z)), (fun z => nI (E z))) (nI (p / 4)) z := by
      intro pb h2
      unfold wpX_isBrokenOff
      refine br_f hA8 (br_c (fun _ => h2) (fun w0 => pk_le (g + 1) b (fun _ => h2) (fun w1 => pk_lt (q + 1) (g + 1) (fun _ => h2) (fun w2 => ?_) e9 rfl (by omega) (by omega)) rfl rfl (by omega) (by omega)))
      rcases hz with w | w
      · exact absurd ⟨w.1, w1, w2⟩ hit
      · exact absurd w.1 w0
    by_cases hF : g + 1 = q + 10
    · obtain ⟨S', E', B', bf', mi', bd', f1, f2, f3, fX, fY⟩ := wn_fin (xt := nI (T + 1)) (xs := xs) (xe := nI (D - 1)) (xw := 1) (xq := xq) (xi := nI (I p)) (xg := nI (g + 1)) (xb := nI b) (xc := nI (q + 10)) (ye := nI H) (yr := yr) (yg := nI (g + 1)) (yl := nI b) (yu := nI q) (yi := yi) (yo := yo) (ya := ya) (yn := yn) (yk := yk) (ad := ad) (bd := bd) (bf := bf) (mi := mi) (fm := fm) (fv := fv) (s := 8 * T) hp ht hI hL hC hB hS (by omega) hE hO
      have fin : wn_R (T + 1) (nI (T + 1), xs + 1, nI (D - 1), 3, nI 3, nI (I p), nI (g + 1), nI b, nI (q + 10), (fun z => nI ((wn_shf p (wn_end C p) I) z)), (fun z => nI ((wn_shf p (wn_end C p) L) z)), wn_shf p (wn_end C p) ad, (fun z => nI ((wn_C1 C (p / 4)) z)), bf', bd', (fun z => nI (B' z)), mi', fm, fv, fo, (fun z => nI (S' z)), (fun z => nI (E' z))) (nI (T + 1), xs + 1, nI H, 3, nI 3, nI p, nI (g + 1), nI b, nI q, yi, yo, ya, yn, yk, on, fm, fv, (fun z => nI (S' z)), (fun z => nI (E' z)), mi', (fun z => nI ((wn_C1 C (p / 4)) z)), (fun z => nI (16 * (wn_shf p (wn_end C p) I) z + (wn_shf p (wn_end C p) L) z)), wn_shf p (wn_end C p) ad, (fun z => nI (B' z)), bf', bd') :=
        wn_mk ⟨g1', wn_shf_lt hI, wn_shf_le hL, wn_C1_le hC, f3, fun m => by have := f1 m; omega, f2, hO, wn_dis_rm hC hp ht hd⟩ (Or.inr (Or.inr ⟨Or.inr rfl, 3, by decide, by decide, rfl, rfl⟩))
      refine ⟨_, _, fin, fun post h => wn_pf (r := 0) hp ht hI hC hd hbX (br_t rfl (br_t (congrArg nI hF) (fX post h))), fun post h => wn_yb0 hT hH (by omega) (by omega) (by omega) nh ?_⟩
      unfold wY_nextBit_50
      exact br_t rfl (br_f hA2 (wn_n82 (br_t (by rw [e10, hF]) (fY post h))))
    · have hk := keep.resolve_right hF
      have nF : ¬ nI (g + 1) = nI (q + 10) := fun w => hF ((nI_eq (by omega) (by omega)).mp w)
      refine ⟨_, _, hk, fun post h => wn_pf (r := 0) hp ht hI hC hd hbX (br_t rfl (br_f nF h)), fun post h => wn_yb0 hT hH (by omega) (by omega) (by omega) nh ?_⟩
      unfold wY_nextBit_50
      exact br_t rfl (br_f hA2 (wn_n82 (br_f (by rw [e10]; exact nF) h)))
end
end
section
/-! the beginning of a frame, quiet bits, a whole bit time, run -/
section
variable {xt xs xe xw xq xi xg xb xc : Int32} {ai al ac bf bc mi fm fv fo es er : Nat → Int32} {ad bd : Nat → Int64}
theorem wn_mX {post : SX → Prop} : (fun u : SX => match u with | (xt, xs, xe, xw, xq, xi, xg, xb, xc, ai, al, ad, ac, bf, bd, bc, mi, fm, fv, fo, es, er) => post (xt, xs, xe, xw, xq, xi, xg, xb, xc, ai, al, ad, ac, bf, bd, bc, mi, fm, fv, fo, es, er)) = post := by
  funext u
  obtain ⟨xt, xs, xe, xw, xq, xi, xg, xb, xc, ai, al, ad, ac, bf, bd, bc, mi, fm, fv, fo, es, er⟩ := u
  rfl
end
section
variable {T D H : Nat} {xs xw xq xi xg xb xc yr yf yg yl yu yi yo ya yn yk : Int32} {I L C B S E : Nat → Nat} {ad bd : Nat → Int64} {bf mi fm fv fo on : Nat → Int32}
theorem wn_g1 (G : wn_G T D H I L C B S E fo on) : D - 1 ≤ 1000 ∧ (D - 1 = 0 → H ≤ T + 1) ∧ (0 < D - 1 → H = T + 1 + (D - 1)) := by
  obtain ⟨⟨g1, g2, g3⟩, hI, hL, hC, hB, hS, hE, hO, hd⟩ := G
  by_cases e : D = 0
  · have := g2 e; omega
  · have := g3 (by omega); omega
theorem wn_G1 (G : wn_G T D H I L C B S E fo on) : wn_G (T + 1) (D - 1) H I L C B S E fo on := by
  have := wn_g1 G
  obtain ⟨⟨g1, g2, g3⟩, hI, hL, hC, hB, hS, hE, hO, hd⟩ := G
  exact ⟨this, hI, hL, hC, hB, fun m => by have := hS m; omega, hE, hO, hd⟩
/-- complaint and pause -/
theorem wn_quiet {r : Nat} (G : wn_G T D H I L C B S E fo on) (hw : xw = 2 ∨ xw = 3) (hr1 : 1 ≤ r) (hr : r ≤ 14) :
    ∃ u' v', wn_R (T + 1) u' v' ∧ (∀ post : SX → Prop, post u' → wpX_passQuietBit post (nI (T + 1), xs, nI (D - 1), xw, nI r, xi, xg, xb, xc, (fun z => nI (I z)), (fun z => nI (L z)), ad, (fun z => nI (C z)), bf, bd, (fun z => nI (B z)), mi, fm, fv, fo, (fun z => nI (S z)), (fun z => nI (E z)))) ∧
      (∀ post : SY → Prop, post v' → wpY_goOn post (nI (T + 1), xs, nI H, xw, nI r, yf, yg, yl, yu, yi, yo, ya, yn, yk, on, fm, fv, (fun z => nI (S z)), (fun z => nI (E z)), mi, (fun z => nI (C z)), (fun z => nI (16 * I z + L z)), ad, (fun z => nI (B z)), bf, bd)) := by
  have G1 := wn_G1 G
  have e1 : nI r - 1 = nI (r - 1) := pk_sub (b := 1) hr1
  by_cases h1 : r = 1
  · subst h1
    rcases hw with rfl | rfl
    · refine ⟨(nI (T + 1), xs, nI (D - 1), 3, nI 3, xi, xg, xb, xc, (fun z => nI (I z)), (fun z => nI (L z)), ad, (fun z => nI (C z)), bf, bd, (fun z => nI (B z)), mi, fm, fv, fo, (fun z => nI (S z)), (fun z => nI (E z))), (nI (T + 1), xs, nI H, 3, nI 3, yf, yg, yl, yu, yi, yo, ya, yn, yk, on, fm, fv, (fun z => nI (S z)), (fun z => nI (E z)), mi, (fun z => nI (C z)), (fun z => nI (16 * I z + L z)), ad, (fun z => nI (B z)), bf, bd), wn_mk G1 (Or.inr (Or.inr ⟨Or.inr rfl, 3, by decide, by decide, rfl, rfl⟩)), fun post h => ?_, fun post h => ?_⟩
      · exact nm_r e1 (br_t (by decide) (br_t rfl h))
      · exact nm_r e1 (br_t (by decide) (br_t rfl (br_t rfl h)))
    · refine ⟨(nI (T + 1), xs, nI (D - 1), 0, nI 0, xi, xg, xb, xc, (fun z => nI (I z)), (fun z => nI (L z)), ad, (fun z => nI (C z)), bf, bd, (fun z => nI (B z)), mi, fm, fv, fo, (fun z => nI (S z)), (fun z => nI (E z))), (nI (T + 1), xs, nI H, 0, nI 0, yf, yg, yl, yu, yi, yo, ya, yn, yk, on, fm, fv, (fun z => nI (S z)), (fun z => nI (E z)), mi, (fun z => nI (C z)), (fun z => nI (16 * I z + L z)), ad, (fun z => nI (B z)), bf, bd), wn_mk G1 (Or.inl rfl), fun post h => ?_, fun post h => ?_⟩
      · exact nm_r e1 (br_t (by decide) (br_f (by decide) h))
      · exact nm_r e1 (br_t (by decide) (br_f (by decide) (br_f (by decide) h)))
  · refine ⟨(nI (T + 1), xs, nI (D - 1), xw, nI (r - 1), xi, xg, xb, xc, (fun z => nI (I z)), (fun z => nI (L z)), ad, (fun z => nI (C z)), bf, bd, (fun z => nI (B z)), mi, fm, fv, fo, (fun z => nI (S z)), (fun z => nI (E z))), (nI (T + 1), xs, nI H, xw, nI (r - 1), yf, yg, yl, yu, yi, yo, ya, yn, yk, on, fm, fv, (fun z => nI (S z)), (fun z => nI (E z)), mi, (fun z => nI (C z)), (fun z => nI (16 * I z + L z)), ad, (fun z => nI (B z)), bf, bd), wn_mk G1 (Or.inr (Or.inr ⟨hw, r - 1, by omega, by omega, rfl, rfl⟩)), fun post h => ?_, fun post h => ?_⟩
    · exact nm_r e1 (br_f (nI_nle (by omega) (by omega)) h)
    · exact nm_r e1 (br_f (nI_ne0 (by omega) (by omega)) h)
/-- an idle wire -/
theorem wn_idle {z : Int32} (hT : T < 2000000) (G : wn_G T D H I L C B S E fo on) :
    ∃ u' v', wn_R (T + 1) u' v' ∧ (∀ post : SX → Prop, post u' → wX_passBitTime_41 post z (nI (T + 1)) xs (nI (D - 1)) 0 xq xi xg xb xc (fun z => nI (I z)) (fun z => nI (L z)) ad (fun z => nI (C z)) bf bd (fun z => nI (B z)) mi fm fv fo (fun z => nI (S z)) (fun z => nI (E z))) ∧
      (∀ post : SY → Prop, post v' → wpY_begin post (nI (T + 1), xs, nI H, 0, yr, yf, yg, yl, yu, yi, yo, ya, yn, yk, on, fm, fv, (fun z => nI (S z)), (fun z => nI (E z)), mi, (fun z => nI (C z)), (fun z => nI (16 * I z + L z)), ad, (fun z => nI (B z)), bf, bd)) := by
  have G1 := wn_G1 G
  obtain ⟨⟨g1, g2, g3⟩, hI, hL, hC, hB, hS, hE, hO, hd⟩ := G
  obtain ⟨o, h1, hX, hY⟩ := wn_most (xt := nI (T + 1)) (xs := xs) (xe := nI (D - 1)) (xw := 0) (xq := xq) (xi := xi) (xg := xg) (xb := xb) (xc := xc) (al := fun z => nI (L z)) (ad := ad) (bf := bf) (bd := bd) (bc := fun z => nI (B z)) (mi := mi) (fm := fm) (fv := fv) (es := fun z => nI (S z)) (er := fun z => nI (E z))
      (yt := nI (T + 1)) (ys := xs) (ye := nI H) (yp := 0) (yr := yr) (yf := yf) (yg := yg) (yl := yl) (yu := yu) (yi := yi) (yo := yo) (ya := ya) (yn := yn) (yk := yk) (ma := fm) (va := fv) (se := fun z => nI (S z)) (re := fun z => nI (E z)) (ms := mi) (wt := ad) (bn := fun z => nI (B z)) (bh := bf) (bx := bd) hI hL hC hd hO 16 0 rfl none (fun b hb => nomatch hb)
  match o, h1, hX, hY with
  | none, h1, hX, hY =>
    refine ⟨(nI (T + 1), xs, nI (D - 1), 0, xq, xi, xg, xb, xc, (fun z => nI (I z)), (fun z => nI (L z)), ad, (fun z => nI (C z)), bf, bd, (fun z => nI (B z)), mi, fm, fv, fo, (fun z => nI (S z)), (fun z => nI (E z))), (nI (T + 1), xs, nI H, 0, yr, -1, yg, yl, yu, yi, yo, ya, yn, yk, on, fm, fv, (fun z => nI (S z)), (fun z => nI (E z)), mi, (fun z => nI (C z)), (fun z => nI (16 * I z + L z)), ad, (fun z => nI (B z)), bf, bd), wn_mk G1 (Or.inl rfl), fun post h => ?_, fun post h => ?_⟩
    · unfold wX_passBitTime_41
      refine br_t rfl ?_
      unfold wpX_beginMostUrgent
      refine ⟨17, hX _ (br_t rfl ?_)⟩
      exact br_f (by decide) (br_t rfl h)
    · unfold wpY_begin
      exact ⟨17, hY _ (br_t wn_neg h)⟩
  | some p, h1, hX, hY =>
    obtain ⟨hp, ht⟩ := h1 p rfl
    have vp : vp_in (nI p) 16 := vp_in_nI hp (by decide)
    have ec : (nI p).toNatClampNeg = p := nI_clamp (by omega)
    obtain ⟨n, hn, en⟩ := wb_of (ad (nI p).toNatClampNeg)
    have ha := hI p
    have hl := hL p
    obtain ⟨N, hN⟩ : ∃ N, N = wn_C (wn_b (I p) (L p) n 0) (19 + 8 * L p) := ⟨_, rfl⟩
    obtain ⟨F, hF⟩ : ∃ F, F = wn_b (I p) (L p) n N := ⟨_, rfl⟩
    have hF1 : ∀ j, F j ≤ 1 := fun j => by rw [hF]; exact wn_b_le _ _ _ _ _
    have hN1 : N < 32768 := by rw [hN]; exact wn_C_lt _ _
    obtain ⟨a1, a2, -, -⟩ := wn_P_ok hF1 12
    obtain ⟨b1, b2, -, -⟩ := wn_P_ok hF1 (34 + 8 * L p)
    have e34 : (19 : Int32) + 8 * nI (L p) + 15 = nI (34 + 8 * L p) := by
      rw [wn_19]
      exact (nI_add _ 15).trans (congrArg nI (by omega))
    have fin : wn_R (T + 1) (nI (T + 1), xs, nI (D - 1), 1, xq, nI (I p), nI 1, nI (wn_P F 12).1, nI ((wn_P F (34 + 8 * L p)).1 + 10), (fun z => nI (I z)), (fun z => nI (L z)), ad, (fun z => nI (C z)), bf, bd, (fun z => nI (B z)), mi, fm, fv, fo, (fun z => nI (S z)), (fun z => nI (E z))) (nI (T + 1), xs, nI H, 1, yr, nI p, nI 1, nI (wn_P F 12).1, nI (wn_P F (34 + 8 * L p)).1, nI (wn_P F 12).1, nI (wn_P F (34 + 8 * L p)).1, nI (wn_P F (34 + 8 * L p)).2.1, nI (wn_P F (34 + 8 * L p)).2.2, nI N, on, fm, fv, (fun z => nI (S z)), (fun z => nI (E z)), mi, (fun z => nI (C z)), (fun z => nI (16 * I z + L z)), ad, (fun z => nI (B z)), bf, bd) :=
      wn_mk G1 (Or.inr (Or.inl ⟨rfl, p, 1, (wn_P F 12).1, (wn_P F (34 + 8 * L p)).1, hp, ht, rfl, rfl, rfl, rfl, rfl, rfl, rfl, rfl, by omega, by omega, by omega, by omega⟩))
    refine ⟨_, _, fin, fun post h => ?_, fun post h => ?_⟩
    · unfold wX_passBitTime_41
      refine br_t rfl ?_
      unfold wpX_beginMostUrgent
      refine ⟨17, hX _ (br_f (wn_ne2 (by omega)) ⟨vp, nm_r (wn_at I (by omega)) ⟨vp, nm_r (wn_at L (by omega)) ⟨vp, nm_r en (wn_check ha hl hn ?_)⟩⟩⟩)⟩
      rw [← hN]
      refine nm_r e34 (wn_out (N := 12) ha hl hn hN1 (by omega) (wn_out (N := 34 + 8 * L p) ha hl hn hN1 (Nat.le_refl _) ?_))
      rw [← hF]
      refine nm_r (nI_add _ 10) ?_
      unfold wX_passBitTime_52
      refine br_t rfl ?_
      rw [wn_mX]
      refine wn_pf (g := 0) (r := 0) hp ht hI hC hd (fun pb h2 => ?_) (br_t rfl (br_f (fun w => by have := (nI_eq (by omega) (by omega)).mp w; omega) h))
      unfold wpX_isBrokenOff
      refine br_f ?_ (br_c (fun _ => h2) (fun _ => br_t (nI_le (a := 1) (by omega) (by omega)) h2))
      rw [show nI ((wn_P F (34 + 8 * L p)).1 + 10) - 8 = nI ((wn_P F (34 + 8 * L p)).1 + 2) from (pk_sub (b := 8) (by omega)).trans (congrArg nI (by omega))]
      exact fun w => by have := (nI_eq (by omega) (by omega)).mp w; omega
    · unfold wpY_begin
      refine ⟨17, hY _ (br_f (nI_pos (by omega)) ⟨vp, by decide, vp, by decide, vp, ?_⟩)⟩
      have q1 : nI (16 * I (nI p).toNatClampNeg + L (nI p).toNatClampNeg) / 16 = nI (I p) := by rw [ec]; exact (wn_h16 ha hl).1
      have q2 : nI (16 * I (nI p).toNatClampNeg + L (nI p).toNatClampNeg) - nI (16 * I (nI p).toNatClampNeg + L (nI p).toNatClampNeg) / 16 * 16 = nI (L p) := by rw [ec]; exact (wn_h16 ha hl).2
      dsimp only [wn_oy]
      rw [q2, q1, en]
      exact wn_meas ha hl hn hN hF h
end
theorem wn_bit {T : Nat} {u : SX} {v : SY} (I : wn_R T u v) (hT : T < 2000000) : ∃ u' v', wn_R (T + 1) u' v' ∧ (∀ post : SX → Prop, post u' → wpX_passBitTime post u) ∧
      (∀ post : SY → Prop, post v' → wn_st post (v.1 + 1, v.2)) := by
  obtain ⟨D, H, xs, xw, xq, xi, xg, xb, xc, yr, yf, yg, yl, yu, yi, yo, ya, yn, yk, I, L, C, B, S, E, ad, bd, bf, mi, fm, fv, fo, on, rfl, rfl, G, P⟩ := I
  obtain ⟨z, hz, st⟩ : ∃ z : Int32, ((z = 1 ∧ H = T + 1) ∨ (z = 0 ∧ H ≠ T + 1)) ∧ (∀ post : SX → Prop, wX_passBitTime_41 post z (nI (T + 1)) xs (nI (D - 1)) xw xq xi xg xb xc (fun z => nI (I z)) (fun z => nI (L z)) ad (fun z => nI (C z)) bf bd (fun z => nI (B z)) mi fm fv fo (fun z => nI (S z)) (fun z => nI (E z)) → wpX_passBitTime post (nI T, xs, nI D, xw, xq, xi, xg, xb, xc, (fun z => nI (I z)), (fun z => nI (L z)), ad, (fun z => nI (C z)), bf, bd, (fun z => nI (B z)), mi, fm, fv, fo, (fun z => nI (S z)), (fun z => nI (E z)))) := by
    obtain ⟨⟨g1, g2, g3⟩, -⟩ := G
    by_cases d1 : D = 1
    · subst d1
      have := g3 (by omega)
      refine ⟨1, Or.inl ⟨rfl, this⟩, fun post h => ?_⟩
      unfold wpX_passBitTime
      refine nm_r (nI_1 T) (br_t rfl ?_)
      unfold wX_passBitTime_23
      exact br_f (by decide) (nm_r (pk_sub (a := 1) (b := 1) (by omega)) h)
    · refine ⟨0, Or.inr ⟨rfl, ?_⟩, fun post h => ?_⟩
      · by_cases e : D = 0
        · have := g2 e; omega
        · have := g3 (by omega); omega
      · unfold wpX_passBitTime
        refine nm_r (nI_1 T) (br_f (fun w => d1 ((nI_eq (b := 1) (by omega) (by decide)).mp w)) ?_)
        unfold wX_passBitTime_23
        by_cases e : D = 0
        · subst e
          exact br_t (by decide) h
        · exact br_f (nI_nle (by omega) (by omega)) (nm_r (pk_sub (b := 1) (by omega)) h)
  have key : ∃ u' v', wn_R (T + 1) u' v' ∧ (∀ post : SX → Prop, post u' → wX_passBitTime_41 post z (nI (T + 1)) xs (nI (D - 1)) xw xq xi xg xb xc (fun z => nI (I z)) (fun z => nI (L z)) ad (fun z => nI (C z)) bf bd (fun z => nI (B z)) mi fm fv fo (fun z => nI (S z)) (fun z => nI (E z))) ∧ (∀ post : SY → Prop, post v' → wn_st post (nI (T + 1), xs, nI H, xw, yr, yf, yg, yl, yu, yi, yo, ya, yn, yk, on, fm, fv, (fun z => nI (S z)), (fun z => nI (E z)), mi, (fun z => nI (C z)), (fun z => nI (16 * I z + L z)), ad, (fun z => nI (B z)), bf, bd)) := by
    rcases P with rfl | ⟨rfl, p, g, b, q, hp, ht, rfl, rfl, rfl, rfl, rfl, rfl, rfl, rfl, hb, hq1, hq, hg⟩ | ⟨hw, r, hr1, hr, rfl, rfl⟩
    · obtain ⟨u', v', R, X1, Y1⟩ := wn_idle (z := z) hT G
      exact ⟨u', v', R, X1, fun post h => br_t rfl (Y1 post h)⟩
    · obtain ⟨u', v', R, X1, Y1⟩ := wn_bit1 hT G hz hp ht hb hq1 hq hg
      refine ⟨u', v', R, fun post h => ?_, fun post h => br_f (by decide) (br_t rfl (Y1 post h))⟩
      unfold wX_passBitTime_41 wX_passBitTime_52
      refine br_f (by decide) (br_t rfl ?_)
      rw [wn_mX]
      exact X1 post h
    · obtain ⟨u', v', R, X1, Y1⟩ := wn_quiet G hw hr1 hr
      have h0 : ¬ xw = 0 := by rcases hw with rfl | rfl <;> decide
      have h1 : ¬ xw = 1 := by rcases hw with rfl | rfl <;> decide
      refine ⟨u', v', R, fun post h => ?_, fun post h => br_f h0 (br_f h1 (Y1 post h))⟩
      unfold wX_passBitTime_41 wX_passBitTime_52
      refine br_f h0 (br_f h1 (br_f h0 ?_))
      rw [wn_mX]
      exact X1 post h
  obtain ⟨u', v', R, X1, Y1⟩ := key
  refine ⟨u', v', R, fun post h => st post (X1 post h), fun post h => ?_⟩
  have := Y1 post h
  rw [← nI_1 T] at this
  exact this
def wn_XR (post : Int32 → SX → Prop) (x1 x2 : Int32) (n : Nat) (x3 : Int32) (u : SX) : Prop := match u with
  | (xt, xs, xe, xw, xq, xi, xg, xb, xc, ai, al, ad, ac, bf, bd, bc, mi, fm, fv, fo, es, er) => wX_run_20 post x1 x2 n x3 xt xs xe xw xq xi xg xb xc ai al ad ac bf bd bc mi fm fv fo es er
def wn_YR (post : Int32 → SY → Prop) (x1 x2 : Int32) (n : Nat) (x3 : Int32) (v : SY) : Prop := match v with
  | (yt, ys, ye, yp, yr, yf, yg, yl, yu, yi, yo, ya, yn, yk, on, ma, va, se, re, ms, ww, wh, wt, bn, bh, bx) => wY_run_20 post x1 x2 n x3 yt ys ye yp yr yf yg yl yu yi yo ya yn yk on ma va se re ms ww wh wt bn bh bx
theorem wn_runL {b : Nat} (hb : b ≤ 2000) : ∀ d j T (u : SX) (v : SY), j + d = b → wn_R T u v → T + d < 2000000 → ∃ u' v', wn_R (T + d) u' v' ∧
      (∀ (x2 : Int32) (post : Int32 → SX → Prop), post (u'.2.1 - x2) u' → wn_XR post (nI b) x2 (d + 1) (nI j) u) ∧
      (∀ (x2 : Int32) (post : Int32 → SY → Prop), post (v'.2.1 - x2) v' → wn_YR post (nI b) x2 (d + 1) (nI j) v) := by
  intro d
  induction d with
  | zero =>
    intro j T u v hj R hT
    have le : nI b ≤ nI j := nI_le (by omega) (by omega)
    refine ⟨u, v, R, fun x2 post h => ?_, fun x2 post h => ?_⟩
    · obtain ⟨uxt, uxs, uxe, uxw, uxq, uxi, uxg, uxb, uxc, uai, ual, uad, uac, ubf, ubd, ubc, umi, ufm, ufv, ufo, ues, uer⟩ := u
      exact br_t le h
    · obtain ⟨vyt, vys, vye, vyp, vyr, vyf, vyg, vyl, vyu, vyi, vyo, vya, vyn, vyk, von, vma, vva, vse, vre, vms, vww, vwh, vwt, vbn, vbh, vbx⟩ := v
      exact br_t le h
  | succ d ih =>
    intro j T u v hj R hT
    obtain ⟨u1, v1, R1, bX, bY⟩ := wn_bit R (by omega)
    obtain ⟨u', v', R', hX, hY⟩ := ih (j + 1) (T + 1) u1 v1 (by omega) R1 (by omega)
    have nl : ¬ nI b ≤ nI j := nI_ge (by omega) (by omega)
    refine ⟨u', v', by rw [show T + (d + 1) = T + 1 + d by omega]; exact R', fun x2 post h => ?_, fun x2 post h => ?_⟩
    · have k := hX x2 post h
      obtain ⟨uxt, uxs, uxe, uxw, uxq, uxi, uxg, uxb, uxc, uai, ual, uad, uac, ubf, ubd, ubc, umi, ufm, ufv, ufo, ues, uer⟩ := u
      refine br_f nl (bX _ ?_)
      obtain ⟨xt, xs, xe, xw, xq, xi, xg, xb, xc, ai, al, ad, ac, bf, bd, bc, mi, fm, fv, fo, es, er⟩ := u1
      exact nm_r (nI_1 j) k
    · have k := hY x2 post h
      obtain ⟨vyt, vys, vye, vyp, vyr, vyf, vyg, vyl, vyu, vyi, vyo, vya, vyn, vyk, von, vma, vva, vse, vre, vms, vww, vwh, vwt, vbn, vbh, vbx⟩ := v
      have st : ∀ w : SY → Prop, w v1 → wn_st w (vyt + 1, vys, vye, vyp, vyr, vyf, vyg, vyl, vyu, vyi, vyo, vya, vyn, vyk, von, vma, vva, vse, vre, vms, vww, vwh, vwt, vbn, vbh, vbx) := bY
      obtain ⟨yt, ys, ye, yp, yr, yf, yg, yl, yu, yi, yo, ya, yn, yk, on, ma, va, se, re, ms, ww, wh, wt, bn, bh, bx⟩ := v1
      refine br_f nl (nm_e ⟨fun e0 => ?_, fun n0 => ⟨fun e1 => ?_, fun n1 => ?_⟩⟩)
      · exact (st _ (nm_r (nI_1 j) k)).1 e0
      · exact ((st _ (nm_r (nI_1 j) k)).2 n0).1 e1
      · exact ((st _ (nm_r (nI_1 j) k)).2 n0).2 n1
theorem wn_R_sent {T : Nat} {u : SX} {v : SY} (I : wn_R T u v) : v.2.1 = u.2.1 := by
  obtain ⟨D, H, xs, xw, xq, xi, xg, xb, xc, yr, yf, yg, yl, yu, yi, yo, ya, yn, yk, I, L, C, B, S, E, ad, bd, bf, mi, fm, fv, fo, on, rfl, rfl, G, P⟩ := I
  rfl
theorem i_vc_run {k : Nat} {u : SX} {v : SY} (I : i_Rel k u v) (hk : k + 5 ≤ 2560) (v1 : Int32) : wpX_run (fun r u' => wpY_run (fun r' v' => r' = r ∧ i_Rel (k + 5) u' v') v v1) u v1 := by
  have J := i_up I
  obtain ⟨T, hT, R⟩ := I
  have eS := wn_R_sent R
  obtain ⟨uxt, uxs, uxe, uxw, uxq, uxi, uxg, uxb, uxc, uai, ual, uad, uac, ubf, ubd, ubc, umi, ufm, ufv, ufo, ues, uer⟩ := u
  obtain ⟨vyt, vys, vye, vyp, vyr, vyf, vyg, vyl, vyu, vyi, vyo, vya, vyn, vyk, von, vma, vva, vse, vre, vms, vww, vwh, vwt, vbn, vbh, vbx⟩ := v
  have eS' : vys = uxs := eS
  subst eS'
  unfold wpX_run
  by_cases h0 : v1 < 0
  · refine br_t h0 ?_
    unfold wpY_run
    exact br_t h0 ⟨rfl, J⟩
  refine br_f h0 ?_
  by_cases h2 : v1 ≤ 2000
  · obtain ⟨b, hb, rfl⟩ := nI_of h0
    have hb2 : b ≤ 2000 := Nat.not_lt.mp (fun z => nI_ge (a := 2000) z hb h2)
    obtain ⟨u', v', R', hX, hY⟩ := wn_runL hb2 b 0 T _ _ (by omega) R (by omega)
    have Y1 : wpY_run (fun r' v' => r' = u'.2.1 - vys ∧ i_Rel (k + 5) u' v') (vyt, vys, vye, vyp, vyr, vyf, vyg, vyl, vyu, vyi, vyo, vya, vyn, vyk, von, vma, vva, vse, vre, vms, vww, vwh, vwt, vbn, vbh, vbx) (nI b) := by
      unfold wpY_run
      refine br_f h0 (br_t h2 ⟨b + 1, ?_⟩)
      exact hY vys (fun r' v' => r' = u'.2.1 - vys ∧ i_Rel (k + 5) u' v') ⟨by rw [wn_R_sent R'], T + b, by omega, R'⟩
    refine br_t h2 ⟨b + 1, ?_⟩
    exact hX vys (fun r u' => wpY_run (fun r' v' => r' = r ∧ i_Rel (k + 5) u' v') (vyt, vys, vye, vyp, vyr, vyf, vyg, vyl, vyu, vyi, vyo, vya, vyn, vyk, von, vma, vva, vse, vre, vms, vww, vwh, vwt, vbn, vbh, vbx) (nI b)) Y1
  · refine br_f h2 ?_
    unfold wpY_run
    exact br_f h0 (br_f h2 ⟨rfl, J⟩)
end
