/-! the dice of both sides -/
def stp (k : Nat) : Nat := (k * 6364136223846793005 + 1442695040888963407) % 18446744073709551616
theorem stp_lt (k : Nat) : stp k < 18446744073709551616 := Nat.mod_lt _ (by decide)
/-- the state behind a draw: at most so many steps -/
def dn (L : Nat) : Nat → Nat → Nat
  | 0, k => k
  | f + 1, k => if stp k / 2 < L then stp k else dn L f (stp k)
theorem stp_int (k : Nat) : ∃ q : Int, (stp k : Int) = 6364136223846793005 * (k : Int) + 1442695040888963407 - 18446744073709551616 * q := by
  refine ⟨((k * 6364136223846793005 + 1442695040888963407) / 18446744073709551616 : Nat), ?_⟩
  have := Nat.div_add_mod (k * 6364136223846793005 + 1442695040888963407) 18446744073709551616
  unfold stp
  omega
theorem dstep {a b c q r F S M : Int} (h1 : b = F * a + S - M * q) (h2 : c = F * b + S - M * r) : c - b = F * (b - a) - M * (r - q) := by grind
theorem dn7 {L k : Nat} (hL : 9223372036854775808 ≤ L + 1125899906842624) : dn L 7 k / 2 < L := by
  obtain ⟨k1, e1⟩ : ∃ k1, k1 = stp k := ⟨_, rfl⟩
  obtain ⟨k2, e2⟩ : ∃ k2, k2 = stp k1 := ⟨_, rfl⟩
  obtain ⟨k3, e3⟩ : ∃ k3, k3 = stp k2 := ⟨_, rfl⟩
  obtain ⟨k4, e4⟩ : ∃ k4, k4 = stp k3 := ⟨_, rfl⟩
  obtain ⟨k5, e5⟩ : ∃ k5, k5 = stp k4 := ⟨_, rfl⟩
  obtain ⟨k6, e6⟩ : ∃ k6, k6 = stp k5 := ⟨_, rfl⟩
  obtain ⟨k7, e7⟩ : ∃ k7, k7 = stp k6 := ⟨_, rfl⟩
  have l1 := stp_lt k; have l2 := stp_lt k1; have l3 := stp_lt k2; have l4 := stp_lt k3; have l5 := stp_lt k4; have l6 := stp_lt k5; have l7 := stp_lt k6
  rw [← e1] at l1; rw [← e2] at l2; rw [← e3] at l3; rw [← e4] at l4; rw [← e5] at l5; rw [← e6] at l6; rw [← e7] at l7
  simp only [dn]
  rw [← e1]; split
  · assumption
  rename_i g1
  rw [← e2]; split
  · assumption
  rename_i g2
  rw [← e3]; split
  · assumption
  rename_i g3
  rw [← e4]; split
  · assumption
  rename_i g4
  rw [← e5]; split
  · assumption
  rename_i g5
  rw [← e6]; split
  · assumption
  rename_i g6
  rw [← e7]; split
  · assumption
  rename_i g7
  exfalso
  obtain ⟨q1, i1⟩ := stp_int k1
  obtain ⟨q2, i2⟩ := stp_int k2
  obtain ⟨q3, i3⟩ := stp_int k3
  obtain ⟨q4, i4⟩ := stp_int k4
  obtain ⟨q5, i5⟩ := stp_int k5
  obtain ⟨q6, i6⟩ := stp_int k6
  rw [← e2] at i1; rw [← e3] at i2; rw [← e4] at i3; rw [← e5] at i4; rw [← e6] at i5; rw [← e7] at i6
  clear e1 e2 e3 e4 e5 e6 e7
  have m1 : 18446744073709551616 ≤ k1 + 2251799813685248 := by clear i1 i2 i3 i4 i5 i6; omega
  have m2 : 18446744073709551616 ≤ k2 + 2251799813685248 := by clear i1 i2 i3 i4 i5 i6; omega
  have m3 : 18446744073709551616 ≤ k3 + 2251799813685248 := by clear i1 i2 i3 i4 i5 i6; omega
  have m4 : 18446744073709551616 ≤ k4 + 2251799813685248 := by clear i1 i2 i3 i4 i5 i6; omega
  have m5 : 18446744073709551616 ≤ k5 + 2251799813685248 := by clear i1 i2 i3 i4 i5 i6; omega
  have m6 : 18446744073709551616 ≤ k6 + 2251799813685248 := by clear i1 i2 i3 i4 i5 i6; omega
  have m7 : 18446744073709551616 ≤ k7 + 2251799813685248 := by clear i1 i2 i3 i4 i5 i6; omega
  clear g1 g2 g3 g4 g5 g6 g7 hL
  have D1 := dstep i1 i2
  have D2 := dstep i2 i3
  have D3 := dstep i3 i4
  have D4 := dstep i4 i5
  have D5 := dstep i5 i6
  have z := lat6 D1 D2 D3 D4 D5 (by clear i1 i2 i3 i4 i5 i6 D1 D2 D3 D4 D5; omega) (by clear i1 i2 i3 i4 i5 i6 D1 D2 D3 D4 D5; omega) (by clear i1 i2 i3 i4 i5 i6 D1 D2 D3 D4 D5; omega) (by clear i1 i2 i3 i4 i5 i6 D1 D2 D3 D4 D5; omega) (by clear i1 i2 i3 i4 i5 i6 D1 D2 D3 D4 D5; omega) (by clear i1 i2 i3 i4 i5 i6 D1 D2 D3 D4 D5; omega) (by clear i1 i2 i3 i4 i5 i6 D1 D2 D3 D4 D5; omega) (by clear i1 i2 i3 i4 i5 i6 D1 D2 D3 D4 D5; omega) (by clear i1 i2 i3 i4 i5 i6 D1 D2 D3 D4 D5; omega) (by clear i1 i2 i3 i4 i5 i6 D1 D2 D3 D4 D5; omega) (by clear i1 i2 i3 i4 i5 i6 D1 D2 D3 D4 D5; omega) (by clear i1 i2 i3 i4 i5 i6 D1 D2 D3 D4 D5; omega)
  clear D1 D2 D3 D4 D5 i2 i3 i4 i5 i6 m1 m2 m3 m4 m5 m6 m7 l1 l2 l3 l4 l5 l6 l7
  omega
theorem dn_lt {L k : Nat} (h : k < 18446744073709551616) (f : Nat) : dn L f k < 18446744073709551616 := by
  induction f generalizing k with
  | zero => exact h
  | succ f ih => simp only [dn]; split; exact stp_lt k; exact ih (stp_lt k)
theorem lN_wrap (k : Nat) : lN (k % 18446744073709551616) = lN k := by
  apply Int64.toBitVec_inj.1
  show BitVec.ofNat 64 _ = BitVec.ofNat 64 _
  apply BitVec.eq_of_toNat_eq
  simp [BitVec.toNat_ofNat]
theorem lN_step (k : Nat) : lN k * (6364136223846793005 : Int64) + (1442695040888963407 : Int64) = lN (stp k) := by
  unfold stp
  rw [lN_wrap]
  show lN k * lN 6364136223846793005 + lN 1442695040888963407 = _
  rw [lN_mul, lN_add]
theorem lN_half {k : Nat} (hk : k < 18446744073709551616) : ((lN k).toUInt64 >>> ((1 : Int32).toInt64.toUInt64 &&& Int64.toUInt64 63)).toInt64 = lN (k / 2) := by
  apply Int64.toBitVec_inj.1
  apply BitVec.eq_of_toNat_eq
  show (BitVec.ofNat 64 k >>> (1 % 64)).toNat = (BitVec.ofNat 64 (k / 2)).toNat
  simp [BitVec.toNat_ofNat, Nat.shiftRight_eq_div_pow]
  omega
theorem any_lN (x : Int64) : ∃ k, k < 18446744073709551616 ∧ x = lN k := by
  refine ⟨x.toBitVec.toNat, x.toBitVec.isLt, ?_⟩
  apply Int64.toBitVec_inj.1
  show _ = BitVec.ofNat 64 _
  simp
/-- the limit, and a draw below n -/
def lim (n : Nat) : Nat := 9223372036854775807 - 9223372036854775807 % n
def dw (n k : Nat) : Nat := dn (lim n) 7 k
theorem dw_lt {n k : Nat} (hk : k < 18446744073709551616) : dw n k < 18446744073709551616 := dn_lt hk 7
theorem lim_lt (n : Nat) : lim n < 2 ^ 63 := by unfold lim; omega
theorem lim_ge {n : Nat} (h1 : 1 ≤ n) (hn : n ≤ 2 ^ 50) : 9223372036854775808 ≤ lim n + 1125899906842624 := by
  unfold lim
  have := Nat.mod_lt 9223372036854775807 (show n > 0 by omega)
  generalize 9223372036854775807 % n = r at *
  omega
theorem lim_eq {n : Nat} (h1 : 1 ≤ n) (hn : n ≤ 2 ^ 50) : (9223372036854775807 : Int64) - ((9223372036854775807 : Int64) - (9223372036854775807 : Int64) / lN n * lN n) = lN (lim n) := by
  have e : (9223372036854775807 : Int64) = lN 9223372036854775807 := rfl
  rw [e, pk_lRem (by omega) (by omega) (by omega), lN_sub (Nat.mod_le _ _)]
  rfl
theorem lN_ne0 {n : Nat} (h1 : 1 ≤ n) (hn : n < 2 ^ 63) : ¬ lN n = 0 := fun q => by
  have := (pk_lEQ (a := n) (b := 0) hn (by omega)).mp q
  omega
theorem s_below {n k : Nat} {post : Int64 → Int64 → Prop} (h1 : 1 ≤ n) (hn : n ≤ 2 ^ 50) (hk : k < 18446744073709551616) (h : post (lN (dw n k / 2 % n)) (lN (dw n k))) : wp_X0_below (lN n) (lN k) post := by
  have ge : 0 ≤ lg_cmp (lN n) (1 : Int64) := (lg_cmp_ge _ _).mpr ((pk_lLE (a := 1) (by omega) (by omega)).mpr (by omega))
  refine ⟨fun _ => ⟨lN_ne0 h1 (by omega), fun z hz => ?_⟩, fun c => absurd ge c⟩
  rw [lim_eq h1 hn] at hz
  subst hz
  have ll := lim_lt n
  have R : ∀ f k' i (x : Int64), i + f ≤ 100 → k' < 18446744073709551616 → (f = 0 → False) → dn (lim n) f k' / 2 < lim n → dn (lim n) f k' = dw n k → b_X0_below_24 post (f + 1) (lN n) (lN (lim n)) x (nI i) (lN k') := by
    intro f
    induction f with
    | zero => intro k' i x _ _ c _ _; exact absurd rfl c
    | succ f ih =>
      intro k' i x hi hk' _ hd he
      have sl := stp_lt k'
      refine c_le (a := 1000000) (by omega) (by omega) (fun q => by omega) (fun _ z hz => ?_)
      rw [lN_step, lN_half sl] at hz
      subst hz
      rw [lN_step, nI_1]
      simp only [dn] at hd he
      refine ⟨fun c => ?_, fun c => ?_⟩
      · have cl : lim n ≤ stp k' / 2 := (pk_lLE (by omega) (by omega)).mp ((lg_cmp_ge _ _).mp c)
        rw [if_neg (by omega)] at hd he
        refine ih (stp k') (i + 1) _ (by omega) sl (fun f0 => ?_) hd he
        subst f0
        simp only [dn] at hd
        omega
      · have cl : stp k' / 2 < lim n := by
          apply Classical.byContradiction
          intro w
          exact c ((lg_cmp_ge _ _).mpr ((pk_lLE (by omega) (by omega)).mpr (by omega)))
        rw [if_pos cl] at hd he
        refine ⟨lN_ne0 h1 (by omega), ?_⟩
        rw [pk_lRem (by omega) (by omega) (by omega), he]
        exact h
  exact ⟨8, R 7 k 0 0 (by omega) hk (by omega) (dn7 (lim_ge h1 hn)) rfl⟩
theorem s_draw {n k : Nat} {post : Int64 → Int64 → Prop} (h1 : 1 ≤ n) (hn : n ≤ 2 ^ 50) (hk : k < 18446744073709551616) (h : post (lN (dw n k / 2 % n)) (lN (dw n k))) : wp_X7_draw (lN n) (lN k) post := by
  refine ⟨lN_ne0 h1 (by omega), fun z hz => ?_⟩
  rw [lim_eq h1 hn] at hz
  subst hz
  have ll := lim_lt n
  have R : ∀ f k' x, x < 2 ^ 63 → lim n ≤ x → k' < 18446744073709551616 → dn (lim n) (f + 1) k' / 2 < lim n → dn (lim n) (f + 1) k' = dw n k → b_X7_draw_13 post (f + 3) (lN n) (lN (lim n)) (lN x) (lN k') := by
    intro f
    induction f with
    | zero =>
      intro k' x hx hlx hk' hd he
      have sl := stp_lt k'
      refine ⟨fun c => ?_, fun _ z hz => ?_⟩
      · have := (pk_lLT (by omega) (by omega)).mp ((lg_cmp_lt _ _).mp c); omega
      rw [lN_step, lN_half sl] at hz
      subst hz
      rw [lN_step]
      simp only [dn] at hd he
      have cl : stp k' / 2 < lim n := by
        apply Classical.byContradiction
        intro w
        rw [if_neg w] at hd
        omega
      rw [if_pos cl] at hd he
      refine ⟨fun _ => ⟨lN_ne0 h1 (by omega), ?_⟩, fun c => absurd ((lg_cmp_lt _ _).mpr ((pk_lLT (by omega) (by omega)).mpr cl)) c⟩
      rw [pk_lRem (by omega) (by omega) (by omega), he]
      exact h
    | succ f ih =>
      intro k' x hx hlx hk' hd he
      have sl := stp_lt k'
      refine ⟨fun c => ?_, fun _ z hz => ?_⟩
      · have := (pk_lLT (by omega) (by omega)).mp ((lg_cmp_lt _ _).mp c); omega
      rw [lN_step, lN_half sl] at hz
      subst hz
      rw [lN_step]
      by_cases cl : stp k' / 2 < lim n
      · rw [dn, if_pos cl] at hd he
        refine ⟨fun _ => ⟨lN_ne0 h1 (by omega), ?_⟩, fun c => absurd ((lg_cmp_lt _ _).mpr ((pk_lLT (by omega) (by omega)).mpr cl)) c⟩
        rw [pk_lRem (by omega) (by omega) (by omega), he]
        exact h
      · rw [dn, if_neg cl] at hd he
        exact ih (stp k') (stp k' / 2) (by omega) (by omega) sl hd he
  exact ⟨9, R 6 k (lim n) ll (Nat.le_refl _) hk (dn7 (lim_ge h1 hn)) rfl⟩
