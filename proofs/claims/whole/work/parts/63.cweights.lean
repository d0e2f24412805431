/-! the class's weights -/
theorem min6 {n : Nat} (hn : n ≤ 6) : (if (6 : Int32) < nI n then (6 : Int32) else nI n) = nI n := if_neg (fun q => by
  have := (nI_ltI (a := 6) (b := n) (by omega) (by omega)).mp q
  omega)
/-- what prepare leaves: the tables of weights -/
def PR (M u v s t n G : Nat) (f_be f_bt : Nat → Int64) (f_dg : Nat → Int32) : Prop := (∀ m, m ≤ n * (n - 1) / 2 → f_be m = lN (bew M u v s n G m)) ∧ (∀ k, k < 32 → f_bt k = lN (t ^ k)) ∧ ∀ w, w < n → f_dg w = nI (dgr 6 G w)
theorem s_weightOfEdges {M u v s t n G m : Nat} {post : Int64 → Prop} (hM : MP M u v s t n G) (hm : m ≤ n * (n - 1) / 2) (h : post (lN (bew M u v s n G m))) : wp_X5_weightOfEdges (nI m) (nI (n * (n - 1) / 2)) (nI u) (nI v) (nI s) (nI M) (nI G) post := by
  obtain ⟨h1, h2, h3, h4, h5, h6, h7⟩ := hM
  have hP := np15 h6
  have hG := gr_lt h6 h7
  have hc := cnt_le G 15
  unfold bew at h
  refine c_eq (b := 0) (by omega) (by omega) (fun q => ?_) (fun q0 => c_eq (b := 3) (by omega) (by omega) (fun q => ?_) (fun q3 => s_bitCount hG ?_))
  · rw [nI_l (by omega), pk_sub h2, nI_l (by omega), pk_sub hm]
    refine s_power5 (by omega) (s_power5 (by omega) ?_)
    rw [lN_mul]
    rw [if_pos q] at h
    exact h
  · rw [nI_l (by omega)]
    refine s_power5 (by omega) ?_
    rw [if_neg q0, if_pos q] at h
    exact h
  · rw [if_neg q0, if_neg q3] at h
    refine c_eq (by omega) (by omega) (fun e => ?_) (fun e => ?_)
    · rw [if_pos e] at h; exact h
    · rw [if_neg e] at h; exact h
theorem s_countsTriangles {M t : Nat} {post : Int32 → Prop} (hM : M < 4) (ht : t ≤ 2) (h : post (nI (if M = 3 ∧ t ≠ 1 then 1 else 0))) : wp_X5_countsTriangles (nI t) (nI M) post := by
  refine c_eq (b := 3) (by omega) (by omega) (fun q => c_eq (b := 1) (by omega) (by omega) (fun q2 => ?_) (fun q2 => ?_)) (fun q => ?_)
  · rw [if_neg (fun z => z.2 q2)] at h; exact h
  · rw [if_pos ⟨q, q2⟩] at h; exact h
  · rw [if_neg (fun z => q z.1)] at h; exact h
/-- how long the row of kept things is behind prepare -/
def kpr (M t n kn : Nat) : Nat := if M = 3 ∧ t ≠ 1 then max kn (2 ^ (n * (n - 1) / 2)) else kn
theorem s_prepare {M u v s t n G kn mC mS : Nat} {wm wo wn : Int32} {f_be f_bt : Nat → Int64} {f_dg f_st f_ke : Nat → Int32} {post : Int32 → Int32 → Int32 → (Nat → Int64) → (Nat → Int64) → (Nat → Int32) → Nat → (Nat → Int32) → Prop} (hM : MP M u v s t n G) (hst : ∀ v, v < 6 → f_st v = nI (star v)) (hkn : kn ≤ 32768) (hK : KE kn f_ke)
    (hb : kn < kpr M t n kn → 1 ≤ mC ∧ 2 ^ (n * (n - 1) / 2) ≤ mS)
    (h : ∀ f_be' f_bt' f_dg' f_ke', PR M u v s t n G f_be' f_bt' f_dg' → KE (kpr M t n kn) f_ke' → post (nI M) (nI G) (nI n) f_be' f_bt' f_dg' (kpr M t n kn) f_ke') : wp_X5_prepare (nI M) (nI G) (nI n) (nI u) (nI v) (nI s) (nI t) f_st wm wo wn f_be f_bt f_dg kn f_ke mC mS post := by
  have hM0 := hM
  obtain ⟨h1, h2, h3, h4, h5, h6, h7⟩ := hM
  have hP := np15 h6
  have hG := gr_lt h6 h7
  have ht2 := two_lt h6
  unfold wp_X5_prepare
  rw [min6 h6]
  refine s_among (by omega) ?_
  refine pk_loop (σ := Nat → Int64) (fun k m f => b_X5_prepare_32 (nI u) (nI v) (nI s) (nI t) f_st mC mS post k (nI (n * (n - 1) / 2)) (nI m) (nI M) (nI G) (nI n) f f_bt f_dg kn f_ke) (fun m f => ∀ j, j < m → f j = lN (bew M u v s n G j)) (n * (n - 1) / 2 + 1) 0 f_be (by omega) (fun j hj => by omega) ?_ ?_
  · intro k f hI
    refine c_lt (by omega) (by omega) (fun _ => ?_) (fun q => by omega)
    refine pk_loop (σ := Nat → Int64) (fun k j fb => b_X5_prepare_63 (nI u) (nI v) (nI s) (nI t) f_st mC mS post k (nI (n * (n - 1) / 2)) (nI j) (nI M) (nI G) (nI n) f fb f_dg kn f_ke) (fun j fb => ∀ i, i < j → fb i = lN (t ^ i)) 32 0 f_bt (by omega) (fun j hj => by omega) ?_ ?_
    · intro k2 fb hB
      refine c_le (a := 32) (b := 32) (by omega) (by omega) (fun _ => ?_) (fun q => by omega)
      refine pk_loop (σ := Nat → Int32) (fun k w fd => b_X5_prepare_99 (nI u) (nI v) (nI s) (nI t) f_st mC mS post k (nI (n * (n - 1) / 2)) (nI w) (nI M) (nI G) (nI n) f fb fd kn f_ke) (fun w fd => ∀ j, j < w → fd j = nI (dgr 6 G j)) n 0 f_dg (by omega) (fun j hj => by omega) ?_ ?_
      · intro k3 fd hD
        have pr : PR M u v s t n G f fb fd := ⟨fun m hm => hI m (by omega), hB, hD⟩
        refine c_le (by omega) (by omega) (fun _ => s_countsTriangles h1 h5 ?_) (fun q => by omega)
        by_cases c : M = 3 ∧ t ≠ 1
        · rw [if_pos c]
          have ek : kpr M t n kn = max kn (2 ^ (n * (n - 1) / 2)) := if_pos c
          rw [ek] at h hb
          refine c01 (v := 1) (Or.inr rfl) (fun e => by omega) (fun _ => ?_)
          rw [two_np h6]
          by_cases cl : kn < 2 ^ (n * (n - 1) / 2)
          · obtain ⟨b1, b2⟩ := hb (by omega)
            refine ⟨1, 2 ^ (n * (n - 1) / 2), by omega, by omega, s_makeRoom (w := 1) (by omega) ht2 hkn hK (fun _ _ _ => ⟨by omega, by omega⟩) (fun f' hf' => ?_)⟩
            rw [if_neg (by omega)] at hf' ⊢
            exact h _ _ _ _ pr hf'
          · refine ⟨0, 0, by omega, by omega, s_makeRoom (w := 1) (by omega) ht2 hkn hK (fun _ _ q => by omega) (fun f' hf' => ?_)⟩
            rw [if_neg (by omega)] at hf' ⊢
            exact h _ _ _ _ pr hf'
        · rw [if_neg c]
          have ek : kpr M t n kn = kn := if_neg c
          rw [ek] at h
          exact c01 (v := 0) (Or.inl rfl) (fun _ => h _ _ _ _ pr hK) (fun e => by omega)
      · intro k3 w fd hw hD ihd
        refine c_le (by omega) (by omega) (fun q => by omega) (fun _ => s_degree hst (by omega) ⟨vp_in_nI (by omega) (by omega), ?_⟩)
        rw [nI_1, nI_clamp (by omega)]
        refine ihd _ (fun j hj => ?_)
        by_cases e : j = w
        · subst e; rw [pk_us]
        · rw [pk_un e]; exact hD j (by omega)
    · intro k2 j fb hj hB ihb
      refine c_le (a := 32) (by omega) (by omega) (fun q => by omega) (fun _ => ?_)
      rw [nI_l (by omega)]
      refine s_power5 (by omega) ⟨vp_in_nI (by omega) (by omega), ?_⟩
      rw [nI_1, nI_clamp (by omega)]
      refine ihb _ (fun i hi => ?_)
      by_cases e : i = j
      · subst e; rw [pk_uLs]
      · rw [pk_uLn e]; exact hB i (by omega)
  · intro k m f hm hI ih
    refine c_lt (by omega) (by omega) (fun q => by omega) (fun _ => s_weightOfEdges hM0 (by omega) ⟨vp_in_nI (by omega) (by omega), ?_⟩)
    rw [nI_1, nI_clamp (by omega)]
    refine ih _ (fun j hj => ?_)
    by_cases e : j = m
    · subst e; rw [pk_uLs]
    · rw [pk_uLn e]; exact hI j (by omega)
theorem s_hasOwnDegrees {n g G : Nat} {f_dg f_st : Nat → Int32} {post : Int32 → Prop} (hn : n ≤ 6) (hst : ∀ v, v < 6 → f_st v = nI (star v)) (hw : ∀ w, w < n → f_dg w = nI (dgr 6 G w)) (h : post (nI (if ∀ w, w < n → dgr 6 g w = dgr 6 G w then 1 else 0))) : wp_X5_hasOwnDegrees (nI g) (nI n) f_dg f_st post := by
  have H : ∀ k i, i + k = n → (∀ w, w < i → dgr 6 g w = dgr 6 G w) → b_X5_hasOwnDegrees_2 (nI n) f_dg f_st post (k + 1) (nI g) (nI i) := by
    intro k
    induction k with
    | zero =>
      intro i hi hI
      refine c_le (by omega) (by omega) (fun _ => ?_) (fun q => by omega)
      rw [if_pos (fun w hw => hI w (by omega))] at h
      exact h
    | succ k ih =>
      intro i hi hI
      refine c_le (by omega) (by omega) (fun q => by omega) (fun _ => s_degree hst (by omega) ⟨vp_in_nI (by omega) (by omega), ?_⟩)
      have d1 := dgr6_le (g := g) (v := i) (by omega)
      have d2 := dgr6_le (g := G) (v := i) (by omega)
      rw [nI_clamp (by omega), hw i (by omega), nI_1]
      refine c_eq (by omega) (by omega) (fun e => ih (i + 1) (by omega) (fun w hw => ?_)) (fun e => ?_)
      · by_cases c : w = i
        · subst c; exact e
        · exact hI w (by omega)
      · rw [if_neg (fun z => e (z i (by omega)))] at h
        exact h
  exact ⟨n + 1, H n 0 (by omega) (fun w hw => by omega)⟩
theorem and15 {k : Nat} (h : k ≤ 15) : nI k &&& (15 : Int32) = nI k := by
  rw [pk_andN (m := 15) (by omega) 4 (by decide), Nat.mod_eq_of_lt (by omega)]
theorem and31 {k : Nat} (h : k ≤ 31) : nI k &&& (31 : Int32) = nI k := by
  rw [pk_andN (m := 31) (by omega) 5 (by decide), Nat.mod_eq_of_lt (by omega)]
theorem s_of {M u v s t n G g msk kn : Nat} {f_be f_bt : Nat → Int64} {f_dg f_tw f_tr f_lo f_hi f_st f_ke : Nat → Int32} {post : Int64 → (Nat → Int32) → Prop} (hT : TB f_tw f_tr f_lo f_hi f_st) (hM : MP M u v s t n G) (hR : PR M u v s t n G f_be f_bt f_dg) (hg : gr n g) (hm : msk < 32768) (hkn : kn < 2 ^ 30) (hk : M = 3 → t ≠ 1 → 2 ^ (n * (n - 1) / 2) ≤ kn) (hK : KE kn f_ke)
    (h : ∀ f', KE kn f' → post (lN (wtf M u v s t n G g)) f') : wp_X5_of (nI g) (nI t) (nI M) (nI n) f_be f_bt f_dg (nI msk) f_tw f_tr kn f_lo f_hi f_st f_ke post := by
  have hM0 := hM
  have hst := hT.2.2.1
  have hc := cnt_np hM.2.2.2.2.2.1 hg
  have hbl := bew_lt hM hc
  have hp := p15
  obtain ⟨h1, h2, h3, h4, h5, h6, h7⟩ := hM
  obtain ⟨r1, r2, r3⟩ := hR
  have hgl := gr_lt h6 hg
  have hc15 := cnt_le g 15
  refine s_bitCount hgl ?_
  rw [and15 hc15, nI_clamp (by omega), r1 _ hc]
  refine ⟨vp_in_nI (by omega) (by omega), fun z hz => ?_⟩
  subst hz
  refine s_countsTriangles h1 h5 ?_
  by_cases c : M = 3 ∧ t ≠ 1
  · rw [if_pos c]
    refine c01 (v := 1) (Or.inr rfl) (fun e => by omega) (fun _ => s_look (w := 1) hT hkn (by omega) h6 hg hm (Or.inr (Or.inr (Nat.lt_of_lt_of_le hg (hk c.1 c.2)))) hK (fun f' hK' => ?_))
    have tl := tri_lt g
    have e1 : thg n msk g 1 = tri 6 g := rfl
    rw [e1, and31 (by omega), nI_clamp (by omega), r2 _ (by omega), lN_mul]
    refine ⟨vp_in_nI (by omega) (by omega), ?_⟩
    have := h f' hK'
    unfold wtf at this
    rw [if_pos c.1] at this
    unfold bew
    rw [if_neg (by omega), if_pos c.1]
    exact this
  · rw [if_neg c]
    refine c01 (v := 0) (Or.inl rfl) (fun _ => c_eq (b := 2) (by omega) (by omega) (fun q => ?_) (fun q => ?_)) (fun e => by omega)
    · have eb : bew M u v s n G (cnt g 15) = if cnt g 15 = cnt G 15 then 1 else 0 := by unfold bew; rw [if_neg (by omega), if_neg (by omega)]
      rw [lg00 (by omega), eb]
      unfold wtf at h
      rw [if_neg (by omega), if_pos q] at h
      by_cases ce : cnt g 15 = cnt G 15
      · rw [if_pos ce]
        refine ⟨fun c => by omega, fun _ => s_hasOwnDegrees h6 hst r3 ?_⟩
        by_cases d : ∀ w, w < n → dgr 6 g w = dgr 6 G w
        · rw [if_pos d]; rw [if_pos ⟨ce, d⟩] at h
          exact c01 (v := 1) (Or.inr rfl) (fun e => by omega) (fun _ => h f_ke hK)
        · rw [if_neg d]; rw [if_neg (fun z => d z.2)] at h
          exact c01 (v := 0) (Or.inl rfl) (fun _ => h f_ke hK) (fun e => by omega)
      · rw [if_neg ce]
        rw [if_neg (fun z => ce z.1)] at h
        exact ⟨fun _ => h f_ke hK, fun c => absurd rfl c⟩
    · have := h f_ke hK
      unfold wtf at this
      by_cases e3 : M = 3
      · have t1 : t = 1 := by
          apply Classical.byContradiction
          intro z; exact c ⟨e3, z⟩
        rw [if_pos e3, t1, Nat.one_pow, Nat.mul_one] at this
        unfold bew
        rw [if_neg (by omega), if_pos e3]
        exact this
      · rw [if_neg e3, if_neg q] at this
        exact this
