/-! weights -/
theorem lN0 : (0 : Int64) = lN 0 := rfl
theorem lN1 : (1 : Int64) = lN 1 := rfl
theorem s_power7 {b e : Nat} {post : Int64 → Prop} (he : e < 2 ^ 30) (h : post (lN (b ^ e))) : wp_X7_power (lN b) (nI e) post := by
  refine lp0 (fun k i => b_X7_power_5 post k (lN b) (nI e) (lN (b ^ i)) (nI i)) 0 e (by omega) (fun k => c_le (by omega) (by omega) (fun _ => h) (fun q => by omega)) (fun k i _ hi ih => c_le (by omega) (by omega) (fun q => by omega) (fun _ => ?_))
  rw [lN_mul, nI_1]
  exact ih
theorem s_power5 {b e : Nat} {post : Int64 → Prop} (he : e < 2 ^ 30) (h : post (lN (b ^ e))) : wp_X5_power (lN b) (nI e) post := by
  refine lp0 (fun k i => b_X5_power_5 post k (lN b) (nI e) (lN (b ^ i)) (nI i)) 0 e (by omega) (fun k => c_le (by omega) (by omega) (fun _ => h) (fun q => by omega)) (fun k i _ hi ih => c_le (by omega) (by omega) (fun q => by omega) (fun _ => ?_))
  rw [lN_mul, nI_1]
  exact ih
def bew (M u v s n G m : Nat) : Nat := if M = 0 then u ^ m * (v - u) ^ (n * (n - 1) / 2 - m) else if M = 3 then s ^ m else if m = cnt G 15 then 1 else 0
/-- the weight of a graph -/
def wtf (M u v s t n G g : Nat) : Nat := if M = 3 then s ^ cnt g 15 * t ^ tri 6 g else if M = 2 then (if cnt g 15 = cnt G 15 ∧ ∀ w, w < n → dgr 6 g w = dgr 6 G w then 1 else 0) else bew M u v s n G (cnt g 15)
def MP (M u v s t n G : Nat) : Prop := M < 4 ∧ u ≤ v ∧ v ≤ 10 ∧ s ≤ 3 ∧ t ≤ 2 ∧ n ≤ 6 ∧ gr n G
theorem np15 {n : Nat} (hn : n ≤ 6) : n * (n - 1) / 2 ≤ 15 := (by decide : ∀ n, n < 7 → n * (n - 1) / 2 ≤ 15) n (by omega)
theorem bew_lt {M u v s t n G m : Nat} (h : MP M u v s t n G) (hm : m ≤ n * (n - 1) / 2) : bew M u v s n G m ≤ 10 ^ 15 := by
  obtain ⟨h1, h2, h3, h4, h5, h6, h7⟩ := h
  have hP := np15 h6
  unfold bew
  split
  · calc u ^ m * (v - u) ^ (n * (n - 1) / 2 - m) ≤ 10 ^ m * 10 ^ (n * (n - 1) / 2 - m) := Nat.mul_le_mul (Nat.pow_le_pow_left (by omega) m) (Nat.pow_le_pow_left (by omega) _)
      _ = 10 ^ (n * (n - 1) / 2) := by rw [← Nat.pow_add]; congr 1; omega
      _ ≤ 10 ^ 15 := Nat.pow_le_pow_right (by decide) hP
  · split
    · calc s ^ m ≤ 10 ^ m := Nat.pow_le_pow_left (by omega) m
        _ ≤ 10 ^ 15 := Nat.pow_le_pow_right (by decide) (by omega)
    · split <;> decide
theorem cnt_np {n g : Nat} (hn : n ≤ 6) (hg : gr n g) : cnt g 15 ≤ n * (n - 1) / 2 := by rw [← cnt_gr hn hg]; exact cnt_le _ _
theorem wtf_lt {M u v s t n G g : Nat} (h : MP M u v s t n G) (hg : gr n g) : wtf M u v s t n G g ≤ 10 ^ 15 := by
  have hc := cnt_np h.2.2.2.2.2.1 hg
  have hc2 := cnt_le g 15
  have ht := tri_lt g
  have hb := bew_lt h hc
  obtain ⟨h1, h2, h3, h4, h5, h6, h7⟩ := h
  unfold wtf
  split
  · calc s ^ cnt g 15 * t ^ tri 6 g ≤ 3 ^ 15 * 2 ^ 20 := Nat.mul_le_mul (Nat.le_trans (Nat.pow_le_pow_left h4 _) (Nat.pow_le_pow_right (by decide) hc2)) (Nat.le_trans (Nat.pow_le_pow_left h5 _) (Nat.pow_le_pow_right (by decide) ht))
      _ ≤ 10 ^ 15 := by decide
  · split
    · split <;> decide
    · exact hb
theorem byte_id : ∀ k, k < 128 → vp_nar .byte (nI k).toInt8.toInt32 = nI k := by decide +kernel
/-- the reference's row of triangles, by the nodes that it was made for -/
def YT (mY : Int32) (f_yt : Nat → Int32) : Prop := ∀ n, 1 ≤ n → n ≤ 6 → mY = nI n → ∀ g, gr n g → f_yt g = nI (tri 6 g)
theorem two_np {n : Nat} (hn : n ≤ 6) : (1 : Int32) <<< (nI (n * (n - 1) / 2) &&& 31) = nI (2 ^ (n * (n - 1) / 2)) := nb_one _ (by have := np15 hn; omega)
theorem two_lt {n : Nat} (hn : n ≤ 6) : 2 ^ (n * (n - 1) / 2) ≤ 32768 := (by decide : ∀ n, n < 7 → 2 ^ (n * (n - 1) / 2) ≤ 32768) n (by omega)
theorem s_findTriangles {n : Nat} {mY : Int32} {f_yt : Nat → Int32} {post : Int32 → (Nat → Int32) → Prop} (hn1 : 1 ≤ n) (hn : n ≤ 6) (hY : YT mY f_yt) (h : ∀ f', YT (nI n) f' → post (nI n) f') : wp_X7_findTriangles (nI n) (nI (n * (n - 1) / 2)) mY f_yt post := by
  refine ⟨fun c => ?_, fun c => ?_⟩
  · subst c; exact h f_yt hY
  · have ht := two_lt hn
    have h31 : 2 ^ (n * (n - 1) / 2) < 2 ^ 31 := by omega
    refine pk_loop (σ := Nat → Int32) (fun k g f => b_X7_findTriangles_22 (nI n) (nI (n * (n - 1) / 2)) post k (nI g) (nI n) f) (fun g f => ∀ j, j < g → f j = nI (tri 6 j)) (2 ^ (n * (n - 1) / 2)) 0 f_yt (Nat.zero_le _) (fun j hj => by omega) ?_ ?_
    · intro k f hI
      show ((1 : Int32) <<< _ ≤ _ → _) ∧ _
      rw [two_np hn]
      refine c_le h31 h31 (fun _ => h f (fun m hm1 hm e g hg => ?_)) (fun q => by omega)
      obtain rfl : n = m := nI_inj (by omega) (by omega) e
      exact hI g hg
    · intro k g f hg hI ih
      show ((1 : Int32) <<< _ ≤ _ → _) ∧ _
      rw [two_np hn]
      refine c_le h31 (by omega) (fun q => by omega) (fun _ => s_trianglesOf hn (by omega) ⟨vp_in_nI (by omega) (by omega), ?_⟩)
      have tl := tri_lt g
      rw [tri_gr hn hg, byte_id _ (by omega), nI_1, nI_clamp (by omega)]
      refine ih _ (fun j hj => ?_)
      by_cases e : j = g
      · subst e; rw [pk_us]
      · rw [pk_un e]; exact hI j (by omega)
theorem s_ready {M u v s t n G : Nat} {mY mM : Int32} {f_yt f_yw : Nat → Int32} {f_ye : Nat → Int64} {post : Int32 → Int32 → (Nat → Int32) → (Nat → Int64) → (Nat → Int32) → Prop} (hn1 : 1 ≤ n) (hM : MP M u v s t n G) (hY : YT mY f_yt)
    (h : ∀ mY' f_yt' f_ye' f_yw', YT mY' f_yt' → (M = 3 → mY' = nI n) → (∀ m, m ≤ n * (n - 1) / 2 → f_ye' m = lN (bew M u v s n G m)) → (∀ w, w < n → f_yw' w = nI (dgr 6 G w)) → post mY' (nI M) f_yt' f_ye' f_yw') : wp_X7_ready (nI M) (nI n) (nI (n * (n - 1) / 2)) (nI G) (nI u) (nI v) (nI s) mY mM f_yt f_ye f_yw post := by
  obtain ⟨h1, h2, h3, h4, h5, h6, h7⟩ := hM
  have hP := np15 h6
  have hG := gr_lt h6 h7
  refine s_edgesOf hP (by omega) ?_
  rw [cnt_gr h6 h7]
  have hc := cnt_le G 15
  refine pk_loop (σ := Nat → Int64) (fun k m f => b_X7_ready_16 (nI n) (nI (n * (n - 1) / 2)) (nI G) (nI u) (nI v) (nI s) post k (nI M) (nI (cnt G 15)) (nI m) mY (nI M) f_yt f f_yw) (fun m f => ∀ j, j < m → f j = lN (bew M u v s n G j)) (n * (n - 1) / 2 + 1) 0 f_ye (by omega) (fun j hj => by omega) ?_ ?_
  · intro k f hI
    refine c_lt (by omega) (by omega) (fun _ => ?_) (fun q => by omega)
    refine pk_loop (σ := Nat → Int32) (fun k w fw => b_X7_ready_106 (nI n) (nI (n * (n - 1) / 2)) (nI G) (nI u) (nI v) (nI s) post k (nI M) (nI w) mY (nI M) f_yt f fw) (fun w fw => ∀ j, j < w → fw j = nI (dgr 6 G j)) n 0 f_yw (by omega) (fun j hj => by omega) ?_ ?_
    · intro k' fw hw
      refine c_le (by omega) (by omega) (fun _ => c_le (b := 2) (by omega) (by omega) (fun q => h _ _ _ _ hY (fun e => by omega) (fun m hm => hI m (by omega)) hw) (fun q => s_findTriangles hn1 h6 hY (fun f' hY' => h _ _ _ _ hY' (fun _ => rfl) (fun m hm => hI m (by omega)) hw))) (fun q => by omega)
    · intro k' w fw hw hIw ihw
      refine c_le (by omega) (by omega) (fun q => by omega) (fun _ => s_degreeOf h6 (by omega) (by omega) ⟨vp_in_nI (by omega) (by omega), ?_⟩)
      rw [nI_1, nI_clamp (by omega)]
      refine ihw _ (fun j hj => ?_)
      by_cases e : j = w
      · subst e; rw [pk_us]; exact congrArg nI (dgr_gr h6 h7 (by omega))
      · rw [pk_un e]; exact hIw j (by omega)
  · intro k m f hm hI ih
    have fin : ∀ x : Int64, x = lN (bew M u v s n G m) → b_X7_ready_97 (nI n) (nI (n * (n - 1) / 2)) (nI G) (nI u) (nI v) (nI s) post (b_X7_ready_16 (nI n) (nI (n * (n - 1) / 2)) (nI G) (nI u) (nI v) (nI s) post k) (nI M) (nI (cnt G 15)) (nI m) x (nI m) mY (nI M) f_yt f f_yw := by
      intro x hx
      refine ⟨vp_in_nI (by omega) (by omega), ?_⟩
      rw [nI_1, nI_clamp (by omega)]
      refine ih _ (fun j hj => ?_)
      by_cases e : j = m
      · subst e; rw [pk_uLs]; exact hx
      · rw [pk_uLn e]; exact hI j (by omega)
    have own : M = 1 ∨ M = 2 → b_X7_ready_75 (nI n) (nI (n * (n - 1) / 2)) (nI G) (nI u) (nI v) (nI s) post (b_X7_ready_16 (nI n) (nI (n * (n - 1) / 2)) (nI G) (nI u) (nI v) (nI s) post k) (nI M) (nI (cnt G 15)) (nI m) (nI m) mY (nI M) f_yt f f_yw := by
      intro q
      refine c_eq (by omega) (by omega) (fun e => fin 1 ?_) (fun e => fin 0 ?_)
      · unfold bew; rw [if_neg (by omega), if_neg (by omega), if_pos e]; rfl
      · unfold bew; rw [if_neg (by omega), if_neg (by omega), if_neg e]; rfl
    refine c_lt (by omega) (by omega) (fun q => by omega) (fun _ => c_eq (b := 0) (by omega) (by omega) (fun q => ?_) (fun q0 => c_eq (b := 1) (by omega) (by omega) (fun q => own (Or.inl q)) (fun q1 => c_eq (b := 2) (by omega) (by omega) (fun q => own (Or.inr q)) (fun q2 => ?_))))
    · rw [nI_l (by omega), pk_sub h2, nI_l (by omega), pk_sub (by omega)]
      refine s_power7 (by omega) (s_power7 (by omega) (fin _ ?_))
      rw [lN_mul]
      unfold bew
      rw [if_pos q]
    · rw [nI_l (by omega)]
      refine s_power7 (by omega) (fin _ ?_)
      unfold bew
      rw [if_neg q0, if_pos (by omega)]
def sd (n g G : Nat) : Prop := ∀ w, w < n → dgr 6 g w = dgr 6 G w
theorem s_hasDegrees {n g G : Nat} {f_yw : Nat → Int32} {post : Int32 → Prop} (hn : n ≤ 6) (hg : gr n g) (hw : ∀ w, w < n → f_yw w = nI (dgr 6 G w)) (h : post (nI (if ∀ w, w < n → dgr 6 g w = dgr 6 G w then 1 else 0))) : wp_X7_hasDegrees (nI g) (nI n) f_yw post := by
  have hgl := gr_lt hn hg
  have H : ∀ k i, i + k = n → (∀ w, w < i → dgr 6 g w = dgr 6 G w) → b_X7_hasDegrees_2 (nI n) f_yw post (k + 1) (nI g) (nI i) := by
    intro k
    induction k with
    | zero =>
      intro i hi hI
      refine c_le (by omega) (by omega) (fun _ => ?_) (fun q => by omega)
      rw [if_pos (fun w hw => hI w (by omega))] at h
      exact h
    | succ k ih =>
      intro i hi hI
      refine c_le (by omega) (by omega) (fun q => by omega) (fun _ => s_degreeOf hn (by omega) (by omega) ⟨vp_in_nI (by omega) (by omega), ?_⟩)
      have d1 := dgr6_le (g := g) (v := i) (by omega)
      have d2 := dgr6_le (g := G) (v := i) (by omega)
      rw [nI_clamp (by omega), hw i (by omega), show sm (hs g i) n = dgr 6 g i from dgr_gr hn hg (by omega), nI_1]
      refine c_eq (by omega) (by omega) (fun e => ih (i + 1) (by omega) (fun w hw => ?_)) (fun e => ?_)
      · by_cases c : w = i
        · subst c; exact e
        · exact hI w (by omega)
      · rw [if_neg (fun z => e (z i (by omega)))] at h
        exact h
  exact ⟨n + 1, H n 0 (by omega) (fun w hw => by omega)⟩
theorem lg0 {k : Nat} (hk : k < 2 ^ 63) : (lg_cmp (lN k) (0 : Int64) ≤ 0) ↔ k = 0 := by
  rw [lg_cmp_le, lN0, pk_lLE hk (by omega)]; omega
theorem lg00 {k : Nat} (hk : k < 2 ^ 63) : (lg_cmp (lN k) (0 : Int64) = 0) ↔ k = 0 := by
  rw [lg_cmp_eq, lN0, pk_lEQ hk (by omega)]
theorem p15 : (10 : Nat) ^ 15 < 2 ^ 63 := by decide
theorem s_weightOf {M u v s t n G g : Nat} {mY : Int32} {f_yt f_yw : Nat → Int32} {f_ye : Nat → Int64} {post : Int64 → Prop} (hn1 : 1 ≤ n) (hM : MP M u v s t n G) (hg : gr n g) (hY : YT mY f_yt) (hYn : M = 3 → mY = nI n) (he : ∀ m, m ≤ n * (n - 1) / 2 → f_ye m = lN (bew M u v s n G m)) (hw : ∀ w, w < n → f_yw w = nI (dgr 6 G w))
    (h : post (lN (wtf M u v s t n G g))) : wp_X7_weightOf (nI g) (nI n) (nI (n * (n - 1) / 2)) (nI t) (nI M) f_yt f_ye f_yw post := by
  have hc := cnt_np hM.2.2.2.2.2.1 hg
  have hbl := bew_lt hM hc
  have hp := p15
  obtain ⟨h1, h2, h3, h4, h5, h6, h7⟩ := hM
  have hP := np15 h6
  have hgl := gr_lt h6 hg
  have hcG := cnt_le G 15
  refine s_edgesOf hP (by omega) ?_
  rw [cnt_gr h6 hg, nI_clamp (by omega), he _ hc]
  refine ⟨vp_in_nI (by omega) (by omega), c_eq (b := 2) (by omega) (by omega) (fun q => ?_) (fun q => c_le (b := 2) (by omega) (by omega) (fun q2 => ?_) (fun q2 => ?_))⟩
  · have eb : bew M u v s n G (cnt g 15) = if cnt g 15 = cnt G 15 then 1 else 0 := by unfold bew; rw [if_neg (by omega), if_neg (by omega)]
    rw [lg0 (by omega), eb]
    unfold wtf at h
    rw [if_neg (by omega), if_pos q] at h
    refine ⟨fun c => ?_, fun c => s_hasDegrees h6 hg hw ?_⟩
    · rw [if_neg (fun z => by rw [if_pos z.1] at c; omega)] at h; exact h
    · have ce : cnt g 15 = cnt G 15 := by
        apply Classical.byContradiction
        intro z; rw [if_neg z] at c; exact c rfl
      by_cases d : ∀ w, w < n → dgr 6 g w = dgr 6 G w
      · rw [if_pos d]; rw [if_pos ⟨ce, d⟩] at h
        exact c01 (v := 1) (Or.inr rfl) (fun e => by omega) (fun _ => h)
      · rw [if_neg d]; rw [if_neg (fun z => d z.2)] at h
        exact c01 (v := 0) (Or.inl rfl) (fun _ => h) (fun e => by omega)
  · unfold wtf at h
    rw [if_neg (by omega), if_neg q] at h
    exact h
  · have tl := tri_lt g
    have e3 : M = 3 := by omega
    refine ⟨vp_in_nI (by omega) (by omega), ?_⟩
    rw [nI_clamp (by omega), hY n hn1 h6 (hYn e3) g hg, nI_l (by omega)]
    refine s_power7 (by omega) ?_
    rw [lN_mul]
    unfold wtf at h
    rw [if_pos e3] at h
    unfold bew
    rw [if_neg (by omega), if_pos e3]
    exact h
theorem s_totalOf {M u v s t n G : Nat} {mY : Int32} {f_yt f_yw : Nat → Int32} {f_ye : Nat → Int64} {post : Int64 → Prop} (hn1 : 1 ≤ n) (hM : MP M u v s t n G) (hY : YT mY f_yt) (hYn : M = 3 → mY = nI n) (he : ∀ m, m ≤ n * (n - 1) / 2 → f_ye m = lN (bew M u v s n G m)) (hw : ∀ w, w < n → f_yw w = nI (dgr 6 G w))
    (h : post (lN (sm (wtf M u v s t n G) (2 ^ (n * (n - 1) / 2))))) : wp_X7_totalOf (nI n) (nI (n * (n - 1) / 2)) (nI t) (nI M) f_yt f_ye f_yw post := by
  have h6 := hM.2.2.2.2.2.1
  have ht := two_lt h6
  have h31 : 2 ^ (n * (n - 1) / 2) < 2 ^ 31 := by omega
  refine lp0 (fun k g => b_X7_totalOf_4 (nI n) (nI (n * (n - 1) / 2)) (nI t) (nI M) f_yt f_ye f_yw post k (lN (sm (wtf M u v s t n G) g)) (nI g)) 0 (2 ^ (n * (n - 1) / 2)) (Nat.zero_le _) (fun k => ?_) (fun k g _ hg ih => ?_)
  · show ((1 : Int32) <<< _ ≤ _ → _) ∧ _
    rw [two_np h6]
    exact c_le h31 h31 (fun _ => h) (fun q => by omega)
  · show ((1 : Int32) <<< _ ≤ _ → _) ∧ _
    rw [two_np h6]
    refine c_le h31 (by omega) (fun q => by omega) (fun _ => s_weightOf hn1 hM hg hY hYn he hw ?_)
    rw [lN_add, nI_1]
    exact ih
