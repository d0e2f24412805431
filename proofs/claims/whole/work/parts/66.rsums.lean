/-! the reference's sums -/
theorem s_in {a l h : Nat} {post : Int32 → Prop} (ha : a < 2 ^ 31) (hl : l ≤ a) (hh : a ≤ h) (hh2 : h < 2 ^ 31) (hp : post 1) : wp_X7_in (lN a) (lN l) (lN h) post := by
  refine ⟨fun c => ?_, fun _ => ⟨fun c => ?_, fun _ => hp⟩⟩
  · rw [lg_cmp_lt, pk_lLT (by omega) (by omega)] at c; omega
  · rw [lg_cmp_gt, pk_lLT (by omega) (by omega)] at c; omega
theorem s_in_lo {x : Int32} {l h : Nat} {post : Int32 → Prop} (hx : x < 0) (hl : l < 2 ^ 31) (hp : post 0) : wp_X7_in x.toInt64 (lN l) (lN h) post := by
  refine ⟨fun _ => hp, fun c => absurd ?_ c⟩
  rw [lg_cmp_lt, Int64.lt_iff_toInt_lt, Int32.toInt_toInt64, pk_lT (by omega)]
  rw [Int32.lt_iff_toInt_lt] at hx
  simp at hx
  omega
theorem s_in_hi {x : Int32} {l h : Nat} {post : Int32 → Prop} (hx : nI (h + 1) ≤ x) (hh : h < 2 ^ 30) (hp : post 0) : wp_X7_in x.toInt64 (lN l) (lN h) post := by
  refine ⟨fun _ => hp, fun _ => ⟨fun _ => hp, fun c => absurd ?_ c⟩⟩
  rw [lg_cmp_gt, Int64.lt_iff_toInt_lt, Int32.toInt_toInt64, pk_lT (by omega)]
  rw [Int32.le_iff_toInt_le, nI_toInt (by omega)] at hx
  omega
theorem s_in_small {a l h : Nat} {post : Int32 → Prop} (ha : a < l) (hl : l < 2 ^ 31) (hp : post 0) : wp_X7_in (lN a) (lN l) (lN h) post := by
  refine ⟨fun _ => hp, fun c => absurd ?_ c⟩
  rw [lg_cmp_lt, pk_lLT (by omega) (by omega)]
  exact ha
theorem s_isModel7 {M : Nat} {post : Int32 → Prop} (hM : M < 4) (h : post 1) : wp_X7_isModel (nI M) post := by
  unfold wp_X7_isModel
  rw [nI_l (by omega)]
  exact s_in (l := 0) (h := 3) (by omega) (by omega) (by omega) (by omega) ⟨rfl, h⟩
theorem s_isHalf7 {w : Nat} {post : Int32 → Prop} (hw : w < 2) (h : post 1) : wp_X7_isHalf (nI w) post := by
  unfold wp_X7_isHalf
  rw [nI_l (by omega)]
  exact s_in (l := 0) (h := 1) (by omega) (by omega) (by omega) (by omega) ⟨rfl, h⟩
theorem s_isNode7 {n a : Nat} {post : Int32 → Prop} (hn1 : 1 ≤ n) (hn : n ≤ 6) (ha : a < n) (h : post 1) : wp_X7_isNode (nI a) (nI n) post := by
  unfold wp_X7_isNode
  obtain ⟨m, rfl⟩ : ∃ m, n = m + 1 := ⟨n - 1, by omega⟩
  rw [nI_l (by omega), nI_pred, nI_l (by omega)]
  exact s_in (l := 0) (h := m) (by omega) (by omega) (by omega) (by omega) ⟨rfl, h⟩
/-- the reference's row of things -/
def YR (mW mR : Int32) (f_yr : Nat → Int32) : Prop := ∀ w n, w < 7 → 1 ≤ n → n ≤ 6 → mW = nI w → mR = nI n → ∀ g, gr n g → f_yr g = nI (thg n 0 g w)
theorem thg_msk {n m1 m2 g w : Nat} (hw : w < 7) : thg n m1 g w = thg n m2 g w := by
  unfold thg
  rcases (show w = 0 ∨ w = 1 ∨ w = 2 ∨ w = 3 ∨ w = 4 ∨ w = 5 ∨ w = 6 by omega) with rfl | rfl | rfl | rfl | rfl | rfl | rfl <;> rfl
theorem s_findThings {n w : Nat} {mW mR : Int32} {lab f_yr : Nat → Int32} {post : Int32 → Int32 → (Nat → Int32) → Prop} (hn1 : 1 ≤ n) (hn : n ≤ 6) (hw : w < 8) (hY : YR mW mR f_yr) (h : ∀ f', YR (nI w) (nI n) f' → (∀ g, gr n g → f' g = nI (thg n (smk lab 15) g w)) → post (nI w) (nI n) f') : wp_X7_findThings (nI w) (nI n) (nI (n * (n - 1) / 2)) lab mW mR f_yr post := by
  have ht := two_lt hn
  have h31 : 2 ^ (n * (n - 1) / 2) < 2 ^ 31 := by omega
  have run : b_X7_findThings_26 (nI n) (nI (n * (n - 1) / 2)) lab post (nI w) mW mR f_yr := by
    refine pk_loop (σ := Nat → Int32) (fun k g f => b_X7_findThings_41 (nI n) (nI (n * (n - 1) / 2)) lab post k (nI w) (nI g) (nI w) (nI n) f) (fun g f => ∀ j, j < g → f j = nI (thg n (smk lab 15) j w)) (2 ^ (n * (n - 1) / 2)) 0 f_yr (Nat.zero_le _) (fun j hj => by omega) ?_ ?_
    · intro k f hI
      show ((1 : Int32) <<< _ ≤ _ → _) ∧ _
      rw [two_np hn]
      refine c_le h31 h31 (fun _ => h f (fun w' n' hw' hn1' hn' e1 e2 g hg => ?_) (fun g hg => hI g hg)) (fun q => by omega)
      obtain rfl : w = w' := nI_inj (by omega) (by omega) e1
      obtain rfl : n = n' := nI_inj (by omega) (by omega) e2
      rw [thg_msk (m1 := 0) (m2 := smk lab 15) hw']
      exact hI g hg
    · intro k g f hg hI ih
      show ((1 : Int32) <<< _ ≤ _ → _) ∧ _
      rw [two_np hn]
      refine c_le h31 (by omega) (fun q => by omega) (fun _ => s_thingOf hn hg hw ⟨vp_in_nI (by omega) (by omega), ?_⟩)
      have tl := thg_lt n (smk lab 15) g w hn
      rw [byte_id _ (by omega), nI_1, nI_clamp (by omega)]
      refine ih _ (fun j hj => ?_)
      by_cases e : j = g
      · subst e; rw [pk_us]
      · rw [pk_un e]; exact hI j (by omega)
  refine ⟨fun c => ⟨fun c2 => c_eq (b := 7) (by omega) (by omega) (fun _ => run) (fun q => ?_), fun _ => run⟩, fun _ => run⟩
  subst c; subst c2
  refine h f_yr hY (fun g hg => ?_)
  rw [hY w n (by omega) hn1 hn rfl rfl g hg, thg_msk (m1 := 0) (m2 := smk lab 15) (by omega)]
theorem s_many7 {M u v s t n G : Nat} {mY mM : Int32} {f_yt f_yw : Nat → Int32} {f_ye : Nat → Int64} {post : Int32 → Int32 → Int32 → (Nat → Int32) → (Nat → Int64) → (Nat → Int32) → Prop} (hn1 : 1 ≤ n) (hM : MP M u v s t n G) (hY : YT mY f_yt) (h : ∀ mY' f_yt' f_ye' f_yw', YT mY' f_yt' → post (nI (npos M u v s t n G (2 ^ (n * (n - 1) / 2)))) mY' (nI M) f_yt' f_ye' f_yw') : wp_X7_many (nI M) (nI n) (nI (n * (n - 1) / 2)) (nI G) (nI u) (nI v) (nI s) (nI t) mY mM f_yt f_ye f_yw post := by
  have h6 := hM.2.2.2.2.2.1
  have ht := two_lt h6
  have hp := p15
  refine s_isModel7 hM.1 (yes1 (s_ready hn1 hM hY (fun y yt ye yw hy1 hy2 hy3 hy4 => ?_)))
  refine lp0 (fun k g => b_X7_many_18 (nI n) (nI (n * (n - 1) / 2)) (nI G) (nI u) (nI v) (nI s) (nI t) post k (nI (npos M u v s t n G g)) (nI g) y (nI M) yt ye yw) 0 (2 ^ (n * (n - 1) / 2)) (Nat.zero_le _) (fun k => ?_) (fun k g _ hg ih => ?_)
  · show ((1 : Int32) <<< _ ≤ _ → _) ∧ _
    rw [two_np h6]
    exact c_le (by omega) (by omega) (fun _ => h _ _ _ _ hy1) (fun q => by omega)
  · show ((1 : Int32) <<< _ ≤ _ → _) ∧ _
    rw [two_np h6]
    refine c_le (by omega) (by omega) (fun q => by omega) (fun _ => s_weightOf hn1 hM hg hy1 hy2 hy3 hy4 ?_)
    have wl := wtf_lt hM (g := g) hg
    rw [lg0 (by omega)]
    have fin : ∀ x, (if wtf M u v s t n G g = 0 then 0 else 1) = x → b_X7_many_18 (nI n) (nI (n * (n - 1) / 2)) (nI G) (nI u) (nI v) (nI s) (nI t) post k (nI (npos M u v s t n G g) + nI x) (nI g + 1) y (nI M) yt ye yw := by
      intro x hx
      subst hx
      rw [nI_add, nI_1]
      exact ih
    exact ⟨fun c => fin 0 (by rw [if_pos c]), fun c => fin 1 (by rw [if_neg c])⟩
theorem s_total7 {M u v s t n G : Nat} {mY mM : Int32} {f_yt f_yw : Nat → Int32} {f_ye : Nat → Int64} {post : Int64 → Int32 → Int32 → (Nat → Int32) → (Nat → Int64) → (Nat → Int32) → Prop} (hn1 : 1 ≤ n) (hM : MP M u v s t n G) (hY : YT mY f_yt) (h : ∀ mY' f_yt' f_ye' f_yw', YT mY' f_yt' → post (lN (sm (wtf M u v s t n G) (2 ^ (n * (n - 1) / 2)))) mY' (nI M) f_yt' f_ye' f_yw') : wp_X7_total (nI M) (nI n) (nI (n * (n - 1) / 2)) (nI G) (nI u) (nI v) (nI s) (nI t) mY mM f_yt f_ye f_yw post := s_isModel7 hM.1 (yes1 (s_ready hn1 hM hY (fun y yt ye yw hy1 hy2 hy3 hy4 => s_totalOf hn1 hM hy1 hy2 hy3 hy4 (h _ _ _ _ hy1))))
theorem s_likely7 {M u v s t n G : Nat} {mY mM : Int32} {f_yt f_yw : Nat → Int32} {f_ye : Nat → Int64} {w : Nat} {post : Int64 → Int32 → Int32 → (Nat → Int32) → (Nat → Int64) → (Nat → Int32) → Prop} (hn1 : 1 ≤ n) (hM : MP M u v s t n G) (hY : YT mY f_yt) (h1 : MQ1 v s t) (hw : w < 2) (h : ∀ mY' f_yt' f_ye' f_yw', YT mY' f_yt' → post (lN ((if w = 0 then wtf M u v s t n G G else sm (wtf M u v s t n G) (2 ^ (n * (n - 1) / 2))) / Nat.gcd (wtf M u v s t n G G) (sm (wtf M u v s t n G) (2 ^ (n * (n - 1) / 2))))) mY' (nI M) f_yt' f_ye' f_yw') : wp_X7_likely (nI M) (nI w) (nI n) (nI (n * (n - 1) / 2)) (nI G) (nI u) (nI v) (nI s) (nI t) mY mM f_yt f_ye f_yw post := by
  have hp := p15
  have wl := wtf_lt hM (g := G) hM.2.2.2.2.2.2
  have tl := tot_lt hM
  have tp := tot_pos hM h1
  exact s_isModel7 hM.1 (yes1 (s_isHalf7 hw (yes1 (s_ready hn1 hM hY (fun y yt ye yw hy1 hy2 hy3 hy4 => s_weightOf hn1 hM hM.2.2.2.2.2.2 hy1 hy2 hy3 hy4 (s_totalOf hn1 hM hy1 hy2 hy3 hy4 (s_told (by omega) (by omega) (by omega) hw (h _ _ _ _ hy1))))))))
theorem s_pair7 {M u v s t n G : Nat} {mY mM : Int32} {f_yt f_yw : Nat → Int32} {f_ye : Nat → Int64} {a b w : Nat} {post : Int64 → Int32 → Int32 → (Nat → Int32) → (Nat → Int64) → (Nat → Int32) → Prop} (hn1 : 1 ≤ n) (hM : MP M u v s t n G) (hY : YT mY f_yt) (h1 : MQ1 v s t) (hw : w < 2) (ha : a < n) (hbn : b < n) (hab : a ≠ b) (h : ∀ mY' f_yt' f_ye' f_yw', YT mY' f_yt' → post (lN ((if w = 0 then psum M u v s t n G (pix a b) (2 ^ (n * (n - 1) / 2)) else sm (wtf M u v s t n G) (2 ^ (n * (n - 1) / 2))) / Nat.gcd (psum M u v s t n G (pix a b) (2 ^ (n * (n - 1) / 2))) (sm (wtf M u v s t n G) (2 ^ (n * (n - 1) / 2))))) mY' (nI M) f_yt' f_ye' f_yw') : wp_X7_pair (nI M) (nI a) (nI b) (nI w) (nI n) (nI (n * (n - 1) / 2)) (nI G) (nI u) (nI v) (nI s) (nI t) mY mM f_yt f_ye f_yw post := by
  have h6 := hM.2.2.2.2.2.1
  have ht := two_lt h6
  have tl := tot_lt hM
  have tp := tot_pos hM h1
  have sl : psum M u v s t n G (pix a b) (2 ^ (n * (n - 1) / 2)) ≤ sm (wtf M u v s t n G) (2 ^ (n * (n - 1) / 2)) := sm_sub (fun g => if_le)
  refine s_isModel7 hM.1 (yes1 (s_isNode7 hn1 h6 ha (yes1 (s_isNode7 hn1 h6 hbn (yes1 (c_eq (by omega) (by omega) (fun q => absurd q hab) (fun _ => s_isHalf7 hw (yes1 (s_ready hn1 hM hY (fun y yt ye yw hy1 hy2 hy3 hy4 => ?_))))))))))
  refine lp0 (fun k g => b_X7_pair_51 (nI n) (nI (n * (n - 1) / 2)) (nI G) (nI u) (nI v) (nI s) (nI t) post k (nI a) (nI b) (nI w) (lN (psum M u v s t n G (pix a b) g)) (nI g) y (nI M) yt ye yw) 0 (2 ^ (n * (n - 1) / 2)) (Nat.zero_le _) (fun k => ?_) (fun k g _ hg ih => ?_)
  · show ((1 : Int32) <<< _ ≤ _ → _) ∧ _
    rw [two_np h6]
    exact c_le (by omega) (by omega) (fun _ => s_totalOf hn1 hM hy1 hy2 hy3 hy4 (s_told (by omega) (by omega) (by omega) hw (h _ _ _ _ hy1))) (fun q => by omega)
  · show ((1 : Int32) <<< _ ≤ _ → _) ∧ _
    rw [two_np h6]
    have fin : ∀ x, (if bit g (pix a b) = 1 then wtf M u v s t n G g else 0) = x → b_X7_pair_51 (nI n) (nI (n * (n - 1) / 2)) (nI G) (nI u) (nI v) (nI s) (nI t) post k (nI a) (nI b) (nI w) (lN (psum M u v s t n G (pix a b) g) + lN x) (nI g + 1) y (nI M) yt ye yw := by
      intro x hx
      subst hx
      rw [lN_add, nI_1]
      exact ih
    refine c_le (by omega) (by omega) (fun q => by omega) (fun _ => s_has (by omega) (by omega) (by omega) (c01 (hs_01 g a b) (fun e => fin 0 ?_) (fun e => s_weightOf hn1 hM hg hy1 hy2 hy3 hy4 (fin _ ?_))))
    · rw [hs_ne hab] at e; rw [if_neg (by omega)]
    · rw [hs_ne hab] at e; rw [if_pos e]
theorem s_mean7 {M u v s t n G : Nat} {mY mM : Int32} {f_yt f_yw : Nat → Int32} {f_ye : Nat → Int64} {w pt : Nat} {mW mR : Int32} {lab f_yr : Nat → Int32} {post : Int64 → Int32 → Int32 → Int32 → Int32 → (Nat → Int32) → (Nat → Int32) → (Nat → Int64) → (Nat → Int32) → Prop} (hn1 : 1 ≤ n) (hM : MP M u v s t n G) (hY : YT mY f_yt) (h1 : MQ1 v s t) (hw : w < 8) (hpt : pt < 2) (hYR : YR mW mR f_yr) (h : ∀ mW' mR' mY' f_yr' f_yt' f_ye' f_yw', YR mW' mR' f_yr' → YT mY' f_yt' → post (lN ((if pt = 0 then msum M u v s t n G (smk lab 15) w (2 ^ (n * (n - 1) / 2)) else sm (wtf M u v s t n G) (2 ^ (n * (n - 1) / 2))) / Nat.gcd (msum M u v s t n G (smk lab 15) w (2 ^ (n * (n - 1) / 2))) (sm (wtf M u v s t n G) (2 ^ (n * (n - 1) / 2))))) mW' mR' mY' (nI M) f_yr' f_yt' f_ye' f_yw') : wp_X7_mean (nI M) (nI w) (nI pt) (nI n) (nI (n * (n - 1) / 2)) (nI G) (nI u) (nI v) (nI s) (nI t) lab mW mR mY mM f_yr f_yt f_ye f_yw post := by
  have h6 := hM.2.2.2.2.2.1
  have ht := two_lt h6
  have tl := tot_lt hM
  have tp := tot_pos hM h1
  have ml : msum M u v s t n G (smk lab 15) w (2 ^ (n * (n - 1) / 2)) ≤ 60 * sm (wtf M u v s t n G) (2 ^ (n * (n - 1) / 2)) := by
    rw [← sm_mul]
    refine sm_sub (fun g => ?_)
    rw [Nat.mul_comm]
    exact Nat.mul_le_mul_right _ (thg_lt n (smk lab 15) g w h6)
  refine s_isModel7 hM.1 (yes1 ?_)
  rw [nI_l (by omega)]
  refine s_in (l := 0) (h := 7) (by omega) (by omega) (by omega) (by omega) (yes1 (s_isHalf7 hpt (yes1 (s_ready hn1 hM hY (fun y yt ye yw hy1 hy2 hy3 hy4 => s_findThings hn1 h6 hw hYR (fun yr hr1 hr2 => ?_))))))
  refine lp0 (fun k g => b_X7_mean_46 (nI n) (nI (n * (n - 1) / 2)) (nI G) (nI u) (nI v) (nI s) (nI t) lab post k (nI pt) (lN (msum M u v s t n G (smk lab 15) w g)) (nI g) (nI w) (nI n) y (nI M) yr yt ye yw) 0 (2 ^ (n * (n - 1) / 2)) (Nat.zero_le _) (fun k => ?_) (fun k g _ hg ih => ?_)
  · show ((1 : Int32) <<< _ ≤ _ → _) ∧ _
    rw [two_np h6]
    exact c_le (by omega) (by omega) (fun _ => s_totalOf hn1 hM hy1 hy2 hy3 hy4 (s_told (by omega) (by omega) (by omega) hpt (h _ _ _ _ _ _ _ hr1 hy1))) (fun q => by omega)
  · show ((1 : Int32) <<< _ ≤ _ → _) ∧ _
    rw [two_np h6]
    refine c_le (by omega) (by omega) (fun q => by omega) (fun _ => ⟨vp_in_nI (by omega) (by omega), s_weightOf hn1 hM hg hy1 hy2 hy3 hy4 (fun z hz => ?_)⟩)
    have thl := thg_lt n (smk lab 15) g w h6
    rw [nI_clamp (by omega), hr2 g hg, nI_l (by omega), lN_mul, lN_add] at hz
    rw [hz, nI_1, Nat.mul_comm (thg n (smk lab 15) g w)]
    exact ih
theorem s_odds7 {M u v s t n G : Nat} {mY mM : Int32} {f_yt f_yw : Nat → Int32} {f_ye : Nat → Int64} {w sd pt : Nat} {mW mR : Int32} {lab f_yr : Nat → Int32} {post : Int64 → Int32 → Int32 → Int32 → Int32 → (Nat → Int32) → (Nat → Int32) → (Nat → Int64) → (Nat → Int32) → Prop} (hn1 : 1 ≤ n) (hM : MP M u v s t n G) (hY : YT mY f_yt) (h1 : MQ1 v s t) (hw : w < 8) (hsd : sd < 2) (hpt : pt < 2) (hYR : YR mW mR f_yr) (h : ∀ mW' mR' mY' f_yr' f_yt' f_ye' f_yw', YR mW' mR' f_yr' → YT mY' f_yt' → post (lN ((if pt = 0 then osum M u v s t n G (smk lab 15) w sd (2 ^ (n * (n - 1) / 2)) else sm (wtf M u v s t n G) (2 ^ (n * (n - 1) / 2))) / Nat.gcd (osum M u v s t n G (smk lab 15) w sd (2 ^ (n * (n - 1) / 2))) (sm (wtf M u v s t n G) (2 ^ (n * (n - 1) / 2))))) mW' mR' mY' (nI M) f_yr' f_yt' f_ye' f_yw') : wp_X7_odds (nI M) (nI w) (nI sd) (nI pt) (nI n) (nI (n * (n - 1) / 2)) (nI G) (nI u) (nI v) (nI s) (nI t) lab mW mR mY mM f_yr f_yt f_ye f_yw post := by
  have h6 := hM.2.2.2.2.2.1
  have h7 := hM.2.2.2.2.2.2
  have hG := gr_lt h6 h7
  have ht := two_lt h6
  have tl := tot_lt hM
  have tp := tot_pos hM h1
  have tG := thg_lt n (smk lab 15) G w h6
  have ol : osum M u v s t n G (smk lab 15) w sd (2 ^ (n * (n - 1) / 2)) ≤ sm (wtf M u v s t n G) (2 ^ (n * (n - 1) / 2)) := sm_sub (fun g => if_le)
  refine s_isModel7 hM.1 (yes1 ?_)
  rw [nI_l (by omega)]
  refine s_in (l := 0) (h := 7) (by omega) (by omega) (by omega) (by omega) (yes1 (s_isHalf7 hsd (yes1 (s_isHalf7 hpt (yes1 (s_ready hn1 hM hY (fun y yt ye yw hy1 hy2 hy3 hy4 => s_findThings hn1 h6 hw hYR (fun yr hr1 hr2 => ⟨vp_in_nI (by omega) (by omega), ?_⟩))))))))
  rw [nI_clamp (by omega), hr2 G h7]
  refine lp0 (fun k g => b_X7_odds_65 (nI n) (nI (n * (n - 1) / 2)) (nI G) (nI u) (nI v) (nI s) (nI t) lab post k (nI sd) (nI pt) (nI (thg n (smk lab 15) G w)) (lN (osum M u v s t n G (smk lab 15) w sd g)) (nI g) (nI w) (nI n) y (nI M) yr yt ye yw) 0 (2 ^ (n * (n - 1) / 2)) (Nat.zero_le _) (fun k => ?_) (fun k g _ hg ih => ?_)
  · show ((1 : Int32) <<< _ ≤ _ → _) ∧ _
    rw [two_np h6]
    exact c_le (by omega) (by omega) (fun _ => s_totalOf hn1 hM hy1 hy2 hy3 hy4 (s_told (by omega) (by omega) (by omega) hpt (h _ _ _ _ _ _ _ hr1 hy1))) (fun q => by omega)
  · show ((1 : Int32) <<< _ ≤ _ → _) ∧ _
    rw [two_np h6]
    have thl := thg_lt n (smk lab 15) g w h6
    have fin : ∀ x, (if (if sd = 0 then thg n (smk lab 15) G w ≤ thg n (smk lab 15) g w else thg n (smk lab 15) g w ≤ thg n (smk lab 15) G w) then wtf M u v s t n G g else 0) = x → b_X7_odds_65 (nI n) (nI (n * (n - 1) / 2)) (nI G) (nI u) (nI v) (nI s) (nI t) lab post k (nI sd) (nI pt) (nI (thg n (smk lab 15) G w)) (lN (osum M u v s t n G (smk lab 15) w sd g) + lN x) (nI g + 1) (nI w) (nI n) y (nI M) yr yt ye yw := by
      intro x hx
      subst hx
      rw [lN_add, nI_1]
      exact ih
    refine c_le (by omega) (by omega) (fun q => by omega) (fun _ => ?_)
    rw [nI_clamp (by omega), hr2 g hg]
    refine c_eq (b := 0) (by omega) (by omega) (fun q => ⟨vp_in_nI (by omega) (by omega), c_lt (by omega) (by omega) (fun q2 => fin 0 ?_) (fun q2 => s_weightOf hn1 hM hg hy1 hy2 hy3 hy4 (fin _ ?_))⟩) (fun q => ⟨vp_in_nI (by omega) (by omega), c_lt (by omega) (by omega) (fun q2 => fin 0 ?_) (fun q2 => s_weightOf hn1 hM hg hy1 hy2 hy3 hy4 (fin _ ?_))⟩)
    · rw [if_neg]; rw [if_pos q]; omega
    · rw [if_pos]; rw [if_pos q]; exact q2
    · rw [if_neg]; rw [if_neg q]; omega
    · rw [if_pos]; rw [if_neg q]; exact q2
