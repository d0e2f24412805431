/-! the reference's things are the class's -/
theorem cnt_gr {n g : Nat} (hn : n ≤ 6) (hg : gr n g) : cnt g (n * (n - 1) / 2) = cnt g 15 := by
  have : ∀ n, n < 7 → n * (n - 1) / 2 ≤ 15 := by decide
  rw [cnt_sm, cnt_sm]
  exact (sm_ext (this n (by omega)) (fun i h1 _ => bit_big hg h1)).symm
theorem tri_gr {n g : Nat} (hn : n ≤ 6) (hg : gr n g) : tri n g = tri 6 g := by
  refine (sm_ext hn (fun c h1 h2 => ?_)).symm
  refine sm_zero (fun b hb => sm_zero (fun a ha => ?_))
  rw [hs_big hn hg (by omega) h2 (Or.inr h1), Nat.zero_mul]
theorem sq1_gr {n g a b d c : Nat} (hn : n ≤ 6) (hg : gr n g) (ha : a < 6) (hb : b < 6) (hd : d < 6) (hc : c < 6) (h : n ≤ a ∨ n ≤ b ∨ n ≤ d ∨ n ≤ c) : sq1 g a b d c = 0 := by
  unfold sq1
  split
  · rcases h with h | h | h | h
    · rw [hs_big hn hg ha hb (Or.inl h), Nat.zero_mul]
    · rw [hs_big hn hg ha hb (Or.inr h), Nat.zero_mul]
    · rw [hs_big hn hg ha hd (Or.inr h), Nat.zero_mul, Nat.mul_zero]
    · rw [hs_big hn hg hb hc (Or.inr h), Nat.zero_mul, Nat.mul_zero, Nat.mul_zero]
  · rfl
theorem sq_gr {n g : Nat} (hn : n ≤ 6) (hg : gr n g) : sq n g = sq 6 g := by
  have e2 : ∀ a b d, a < 6 → b < 6 → d < 6 → sq2 n g a b d = sq2 6 g a b d := by
    intro a b d ha hb hd
    unfold sq2
    rw [sm_ext (f := sq1 g a b d) hn (fun c h1 h2 => sq1_gr hn hg ha hb hd h2 (Or.inr (Or.inr (Or.inr h1))))]
  have z2 : ∀ a b d, a < 6 → b < 6 → d < 6 → (n ≤ a ∨ n ≤ b ∨ n ≤ d) → sq2 6 g a b d = 0 := by
    intro a b d ha hb hd h
    unfold sq2
    split
    · exact sm_zero (fun c hc => sq1_gr hn hg ha hb hd hc (by omega))
    · rfl
  have e3 : ∀ a b, a < 6 → b < 6 → sq3 n g a b = sq3 6 g a b := by
    intro a b ha hb
    unfold sq3
    rw [sm_ext (f := sq2 6 g a b) hn (fun d h1 h2 => z2 a b d ha hb h2 (Or.inr (Or.inr h1))), sm_congr (fun d hd => e2 a b d ha hb (by omega))]
  have z3 : ∀ a b, a < 6 → b < 6 → (n ≤ a ∨ n ≤ b) → sq3 6 g a b = 0 := by
    intro a b ha hb h
    unfold sq3
    split
    · exact sm_zero (fun d hd => z2 a b d ha hb hd (by omega))
    · rfl
  have e4 : ∀ a, a < 6 → sq4 n g a = sq4 6 g a := by
    intro a ha
    unfold sq4
    rw [sm_ext (f := sq3 6 g a) hn (fun b h1 h2 => z3 a b ha h2 (Or.inr h1)), sm_congr (fun b hb => e3 a b ha (by omega))]
  unfold sq
  rw [sm_ext (f := sq4 6 g) hn (fun a h1 h2 => sm_zero (fun b hb => z3 a b h2 hb (Or.inl h1))), sm_congr (fun a ha => e4 a (by omega))]
theorem dgr_gr {n g v : Nat} (hn : n ≤ 6) (hg : gr n g) (hv : v < 6) : dgr n g v = dgr 6 g v := (sm_ext hn (fun w h1 h2 => hs_big hn hg hv h2 (Or.inr h1))).symm
theorem wed_gr {n g : Nat} (hn : n ≤ 6) (hg : gr n g) : wed n g n = wed 6 g 6 := by
  unfold wed
  rw [sm_ext (f := fun a => dgr 6 g a * (dgr 6 g a - 1) / 2) hn (fun v h1 h2 => by rw [dgr_big hn hg h2 h1])]
  exact sm_congr (fun v hv => by rw [dgr_gr hn hg (by omega)])
theorem mxd_gr {n g : Nat} (hn : n ≤ 6) (hg : gr n g) : mxd (dgr n g) n = mxd (dgr 6 g) 6 := by
  apply Nat.le_antisymm
  · exact mxd_lub n (fun v hv => by rw [dgr_gr hn hg (by omega)]; exact mxd_ge 6 v (by omega))
  · refine mxd_lub 6 (fun v hv => ?_)
    by_cases h : v < n
    · rw [← dgr_gr hn hg hv]; exact mxd_ge n v h
    · rw [dgr_big hn hg hv (by omega)]; exact Nat.zero_le _
theorem sm_const (c n : Nat) : sm (fun _ => c) n = n * c := by
  induction n with
  | zero => simp [sm]
  | succ n ih => simp only [sm, ih]; rw [Nat.succ_mul]
theorem lon_gr {n g : Nat} (hn : n ≤ 6) (hg : gr n g) : lon n g n = n - non g := by
  have e : non g = sm (fun v => if dgr 6 g v = 0 then 0 else 1) n := sm_ext hn (fun v h1 h2 => by rw [if_pos (dgr_big hn hg h2 h1)])
  have s : lon n g n + non g = n := by
    rw [e]
    unfold lon
    rw [sm_add, sm_congr (f' := fun _ => 1) (fun v hv => by rw [dgr_gr hn hg (by omega)]; split <;> rfl), sm_const, Nat.mul_one]
  omega
theorem fx_gr {n g : Nat} (hn : n ≤ 6) (hg : gr n g) : fx n g 15 = n - jn g 15 := by
  have := fx_jn (n := n) (g := g) 15 (Nat.le_refl _) (fun q _ hb => (gr_hi hn hg q hb).1)
  omega
/-- the pairs of like labels -/
def smk (lab : Nat → Int32) : Nat → Nat
  | 0 => 0
  | p + 1 => smk lab p ||| (if lab (lo p) = lab (hi p) then 2 ^ p else 0)
theorem smk_lt (lab : Nat → Int32) : ∀ p, smk lab p < 2 ^ p := by
  intro p
  induction p with
  | zero => exact Nat.lt_succ_self 0
  | succ p ih =>
    simp only [smk]
    have : 2 ^ p < 2 ^ (p + 1) := Nat.pow_lt_pow_right (by decide) (by omega)
    refine Nat.or_lt_two_pow (by omega) ?_
    split
    · exact this
    · exact Nat.two_pow_pos _
theorem smk_bit (lab : Nat → Int32) (q : Nat) : ∀ p, bit (smk lab p) q = if q < p ∧ lab (lo q) = lab (hi q) then 1 else 0 := by
  intro p
  induction p with
  | zero => rw [if_neg (by omega)]; unfold bit smk; simp
  | succ p ih =>
    simp only [smk]
    rw [bit_or, ih]
    by_cases c : lab (lo p) = lab (hi p)
    · rw [if_pos c, bit_pow]
      by_cases e : q = p
      · subst e; rw [if_pos (Or.inr (if_pos rfl)), if_pos ⟨by omega, c⟩]
      · rw [if_neg e]
        by_cases d : q < p ∧ lab (lo q) = lab (hi q)
        · rw [if_pos d, if_pos (Or.inl rfl), if_pos ⟨by omega, d.2⟩]
        · rw [if_neg d, if_neg (by omega), if_neg (fun z => d ⟨by omega, z.2⟩)]
    · rw [if_neg c]
      have z : bit 0 q = 0 := by unfold bit; simp
      rw [z]
      by_cases d : q < p ∧ lab (lo q) = lab (hi q)
      · rw [if_pos d, if_pos (Or.inl rfl), if_pos ⟨by omega, d.2⟩]
      · rw [if_neg d, if_neg (by omega)]
        rw [if_neg]
        intro z2
        by_cases e : q = p
        · subst e; exact c z2.2
        · exact d ⟨by omega, z2.2⟩
theorem lk_gr {n g : Nat} {lab : Nat → Int32} (hn : n ≤ 6) (hg : gr n g) : lk n g lab = lk 6 g lab := by
  refine (sm_ext hn (fun b h1 h2 => sm_zero (fun a ha => ?_))).symm
  split
  · exact hs_big hn hg (by omega) h2 (Or.inr h1)
  · rfl
theorem lk_smk (g : Nat) (lab : Nat → Int32) : lk 6 g lab = cnt (g &&& smk lab 15) 15 := by
  rw [cnt_sm, sm_congr (f' := fun p => if lab (lo p) = lab (hi p) then bit g p else 0) (fun p hp => ?_)]
  · simp [lk, lk2, sm, hs, pix, lo, hi]
    omega
  · rw [bit_and, smk_bit]
    by_cases c : lab (lo p) = lab (hi p)
    · rw [if_pos ⟨hp, c⟩, if_pos c, Nat.mul_one]
    · rw [if_neg (fun z => c z.2), if_neg c, Nat.mul_zero]
theorem thg_lt (n msk g w : Nat) (hn : n ≤ 6) : thg n msk g w ≤ 60 := by
  have h0 := cnt_le g 15
  have h1 := tri_lt g
  have h2 := wed_lt g
  have h4 := mxd_lt g
  have h5 := sq_lt g
  have h7 := cnt_le (g &&& msk) 15
  unfold thg
  repeat' split
  all_goals omega
theorem s_thingOf {n g w : Nat} {lab : Nat → Int32} {post : Int32 → Prop} (hn : n ≤ 6) (hg : gr n g) (hw : w < 8) (h : post (nI (thg n (smk lab 15) g w))) : wp_X7_thingOf (nI g) (nI w) (nI n) (nI (n * (n - 1) / 2)) lab post := by
  have hg31 : g < 2 ^ 31 := by have := gr_lt hn hg; omega
  have hP : n * (n - 1) / 2 ≤ 15 := (by decide : ∀ n, n < 7 → n * (n - 1) / 2 ≤ 15) n (by omega)
  have byd_eq : ∀ w, byd n g w = if w = 2 then wed 6 g 6 else if w = 4 then mxd (dgr 6 g) 6 else n - non g := fun w => by unfold byd; rw [wed_gr hn hg, mxd_gr hn hg, lon_gr hn hg]
  unfold thg at h
  refine c_eq (b := 0) (by omega) (by omega) (fun c => s_edgesOf hP hg31 ?_) (fun c0 => c_eq (b := 1) (by omega) (by omega) (fun c => s_trianglesOf hn hg31 ?_) (fun c1 => c_eq (b := 2) (by omega) (by omega) (fun c => s_byDegrees hn hg31 (by omega) ?_) (fun c2 => c_eq (b := 3) (by omega) (by omega) (fun c => s_partsOf hn hg ?_) (fun c3 => c_eq (b := 4) (by omega) (by omega) (fun c => s_byDegrees hn hg31 (by omega) ?_) (fun c4 => c_eq (b := 5) (by omega) (by omega) (fun c => s_squaresOf hn hg31 ?_) (fun c5 => c_eq (b := 6) (by omega) (by omega) (fun c => s_byDegrees hn hg31 (by omega) ?_) (fun c6 => c_eq (b := 7) (by omega) (by omega) (fun c => s_likeLabels hn hg31 ?_) (fun c7 => by omega))))))))
  · rw [cnt_gr hn hg]; rw [if_pos c] at h; exact h
  · rw [tri_gr hn hg]; rw [if_neg c0, if_pos c] at h; exact h
  · rw [byd_eq, if_pos c]; rw [if_neg c0, if_neg c1, if_pos c] at h; exact h
  · rw [fx_gr hn hg]; rw [if_neg c0, if_neg c1, if_neg c2, if_pos c] at h; exact h
  · rw [byd_eq, if_neg c2, if_pos c]; rw [if_neg c0, if_neg c1, if_neg c2, if_neg c3, if_pos c] at h; exact h
  · rw [sq_gr hn hg]; rw [if_neg c0, if_neg c1, if_neg c2, if_neg c3, if_neg c4, if_pos c] at h; exact h
  · rw [byd_eq, if_neg c2, if_neg c4]; rw [if_neg c0, if_neg c1, if_neg c2, if_neg c3, if_neg c4, if_neg c5, if_pos c] at h; exact h
  · rw [lk_gr hn hg, lk_smk]; rw [if_neg c0, if_neg c1, if_neg c2, if_neg c3, if_neg c4, if_neg c5, if_neg c6] at h; exact h
theorem s_ofSameLabel {lab : Nat → Int32} {post : Int32 → Prop} (h : post (nI (smk lab 15))) : wp_X1_ofSameLabel lab post := by
  refine lp0 (fun k b => b_X1_ofSameLabel_4 lab post k (nI (smk lab (b * (b - 1) / 2))) (nI b)) 1 6 (by omega) (fun k => c_le (a := 6) (b := 6) (by omega) (by omega) (fun _ => by rw [show 6 * (6 - 1) / 2 = 15 from rfl]; exact h) (fun q => by omega)) (fun k b h1 hb ih => c_le (a := 6) (by omega) (by omega) (fun q => by omega) (fun _ => ?_))
  refine lp0 (fun k' a => b_X1_ofSameLabel_13 lab post (b_X1_ofSameLabel_4 lab post k) k' (nI (smk lab (b * (b - 1) / 2 + a))) (nI b) (nI a)) 0 b (by omega) (fun k' => c_le (by omega) (by omega) (fun _ => ?_) (fun q => by omega)) (fun k' a _ ha iha => c_le (by omega) (by omega) (fun q => by omega) (fun _ => ⟨vp_in_nI (by omega) (by omega), vp_in_nI (by omega) (by omega), ?_⟩))
  · rw [nI_1, tri_step b hb]; exact ih
  · obtain ⟨f1, f2, f3, f4⟩ := lo_pix b hb a ha
    rw [nI_clamp (by omega), nI_clamp (by omega)]
    have e : smk lab (b * (b - 1) / 2 + (a + 1)) = smk lab (b * (b - 1) / 2 + a) ||| (if lab a = lab b then 2 ^ (b * (b - 1) / 2 + a) else 0) := by
      show smk lab (b * (b - 1) / 2 + a + 1) = _
      simp only [smk]
      rw [f1, f2]
    rw [e] at iha
    refine ⟨fun c => s_indexOf (by omega) hb ?_, fun c => ?_⟩
    · rw [f4, nb_one _ (by omega), nx_or]
      intro z hz
      subst hz
      show b_X1_ofSameLabel_13 lab post (b_X1_ofSameLabel_4 lab post k) k' _ (nI b) (nI a + 1)
      rw [nI_1]
      rw [if_pos c] at iha
      exact iha
    · show b_X1_ofSameLabel_13 lab post (b_X1_ofSameLabel_4 lab post k) k' _ (nI b) (nI a + 1)
      rw [nI_1]
      rw [if_neg c, Nat.or_zero] at iha
      exact iha
