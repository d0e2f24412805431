/-! drawn, of both sides -/
theorem sm_incl {f : Nat → Nat} {i j : Nat} (h : i ≤ j) : sm f i ≤ sm f j := by
  induction j with
  | zero => obtain rfl : i = 0 := by omega
            exact Nat.le_refl _
  | succ j ih =>
    by_cases e : i = j + 1
    · subst e; exact Nat.le_refl _
    · have := ih (by omega); simp only [sm]; omega
theorem pick {f : Nat → Nat} {x : Nat} : ∀ N, x < sm f N → ∃ j, j < N ∧ sm f j ≤ x ∧ x < sm f (j + 1) := by
  intro N
  induction N with
  | zero => intro h; simp [sm] at h
  | succ N ih =>
    intro h
    by_cases c : x < sm f N
    · obtain ⟨j, a, b⟩ := ih c
      exact ⟨j, by omega, b⟩
    · exact ⟨N, by omega, by omega, h⟩
theorem s_graphAt {M u v s t n G msk kn x j : Nat} {rg : Int32} {f_be f_bt : Nat → Int64} {f_dg f_tw f_tr f_lo f_hi f_st f_ke : Nat → Int32} {post : Int32 → (Nat → Int32) → Prop} (hT : TB f_tw f_tr f_lo f_hi f_st) (hM : MP M u v s t n G) (hR : PR M u v s t n G f_be f_bt f_dg) (hm : msk < 32768) (hkn : kn ≤ 32768) (hk : M = 3 → t ≠ 1 → 2 ^ (n * (n - 1) / 2) ≤ kn) (hK : KE kn f_ke) (hj : j < 2 ^ (n * (n - 1) / 2)) (hx1 : sm (wtf M u v s t n G) j ≤ x) (hx2 : x < sm (wtf M u v s t n G) (j + 1)) 
    (h : ∀ f', KE kn f' → post (nI j) f') : wp_X6_graphAt (lN x) (nI (2 ^ (n * (n - 1) / 2))) rg (nI t) (nI M) (nI n) f_be f_bt f_dg (nI msk) f_tw f_tr kn f_lo f_hi f_st f_ke post := by
  have ht := two_lt hM.2.2.2.2.2.1
  have tl := tot_lt hM
  have H : ∀ d g f, g + d = j → KE kn f → b_X6_graphAt_5 (nI (2 ^ (n * (n - 1) / 2))) rg (nI t) (nI M) (nI n) f_be f_bt f_dg (nI msk) f_tw f_tr kn f_lo f_hi f_st post (d + 1) (lN x) (lN (sm (wtf M u v s t n G) g)) (nI g) f := by
    intro d
    induction d with
    | zero =>
      intro g f hd hf
      obtain rfl : g = j := by omega
      refine c_le (by omega) (by omega) (fun q => by omega) (fun _ => s_of hT hM hR hj hm (by omega) hk hf (fun f' hf' => ?_))
      have i1 : sm (wtf M u v s t n G) (g + 1) ≤ sm (wtf M u v s t n G) (2 ^ (n * (n - 1) / 2)) := sm_incl (by omega)
      rw [lN_add, lg_cmp_le]
      show (lN (sm (wtf M u v s t n G) (g + 1)) ≤ lN x → _) ∧ (¬ lN (sm (wtf M u v s t n G) (g + 1)) ≤ lN x → _)
      rw [pk_lLE (by omega) (by omega)]
      exact ⟨fun c => by omega, fun _ => h f' hf'⟩
    | succ d ih =>
      intro g f hd hf
      have gl : g < 2 ^ (n * (n - 1) / 2) := by omega
      refine c_le (by omega) (by omega) (fun q => by omega) (fun _ => s_of hT hM hR gl hm (by omega) hk hf (fun f' hf' => ?_))
      have i1 : sm (wtf M u v s t n G) (g + 1) ≤ sm (wtf M u v s t n G) j := sm_incl (by omega)
      have i2 : sm (wtf M u v s t n G) j ≤ sm (wtf M u v s t n G) (2 ^ (n * (n - 1) / 2)) := sm_incl (by omega)
      have i3 : sm (wtf M u v s t n G) (j + 1) ≤ sm (wtf M u v s t n G) (2 ^ (n * (n - 1) / 2)) := sm_incl (by omega)
      rw [lN_add, lg_cmp_le, nI_1]
      show (lN (sm (wtf M u v s t n G) (g + 1)) ≤ lN x → b_X6_graphAt_5 _ _ _ _ _ _ _ _ _ _ _ _ _ _ _ _ _ _ (lN (sm (wtf M u v s t n G) (g + 1))) _ _) ∧ (¬ lN (sm (wtf M u v s t n G) (g + 1)) ≤ lN x → _)
      rw [pk_lLE (by omega) (by omega)]
      exact ⟨fun _ => ih (g + 1) f' (by omega) hf', fun c => by omega⟩
  exact ⟨j + 1, H j 0 f_ke (by omega) hK⟩
theorem s_drawn6 {M u v s t n G msk kn mC mS : Nat} {wm wo wn : Int32} {f_be f_bt : Nat → Int64} {f_dg f_tw f_tr f_lo f_hi f_st f_ke : Nat → Int32} {k j : Nat} {post : Int32 → Int32 → Int32 → Int32 → Int32 → (Nat → Int64) → (Nat → Int64) → (Nat → Int32) → Nat → (Nat → Int32) → Int64 → Prop} (hT : TB f_tw f_tr f_lo f_hi f_st) (hM : MP M u v s t n G) (hm : msk < 32768) (hkn : kn ≤ 32768) (hK : KE kn f_ke) (h1 : MQ1 v s t) (hb : kn < kpr M t n kn → 1 ≤ mC ∧ 2 ^ (n * (n - 1) / 2) ≤ mS) (hk : k < 18446744073709551616) (hj : j < 2 ^ (n * (n - 1) / 2)) (hx1 : sm (wtf M u v s t n G) j ≤ dw (sm (wtf M u v s t n G) (2 ^ (n * (n - 1) / 2))) k / 2 % sm (wtf M u v s t n G) (2 ^ (n * (n - 1) / 2))) (hx2 : dw (sm (wtf M u v s t n G) (2 ^ (n * (n - 1) / 2))) k / 2 % sm (wtf M u v s t n G) (2 ^ (n * (n - 1) / 2)) < sm (wtf M u v s t n G) (j + 1))
    (h : ∀ f_be' f_bt' f_dg' f_ke', KE (kpr M t n kn) f_ke' → post (nI j) (nI j) (nI M) (nI G) (nI n) f_be' f_bt' f_dg' (kpr M t n kn) f_ke' (lN (dw (sm (wtf M u v s t n G) (2 ^ (n * (n - 1) / 2))) k))) : wp_X6_drawn (nI M) (nI n) (nI (2 ^ (n * (n - 1) / 2))) (nI u) (nI v) (nI s) (nI t) (nI msk) f_tw f_tr f_lo f_hi f_st (nI G) wm wo wn f_be f_bt f_dg kn f_ke (lN k) mC mS post := by
  obtain ⟨k1, k2, k3⟩ := kpr_le (M := M) (t := t) hM.2.2.2.2.2.1 hkn
  have tl := tot_lt hM
  have tp := tot_pos hM h1
  exact s_isModel6 hM.1 (yes1 ⟨mC, mS, by omega, by omega, s_prepare hM hT.2.2.1 hkn hK hb (fun be bt dg ke hR hK' => s_sumOfWeights hT hM hR hm k1 k3 hK' (fun f1 hf1 => s_below tp tl hk (s_graphAt hT hM hR hm k1 k3 hf1 hj hx1 hx2 (fun f' hf' => h _ _ _ f' hf'))))⟩)
theorem s_drawn7 {M u v s t n G : Nat} {mY mM : Int32} {f_yt f_yw : Nat → Int32} {f_ye : Nat → Int64} {k j : Nat} {post : Int32 → Int32 → Int64 → Int32 → Int32 → (Nat → Int32) → (Nat → Int64) → (Nat → Int32) → Prop} (hn1 : 1 ≤ n) (hM : MP M u v s t n G) (hY : YT mY f_yt) (h1 : MQ1 v s t) (hk : k < 18446744073709551616) (hj : j < 2 ^ (n * (n - 1) / 2)) (hx1 : sm (wtf M u v s t n G) j ≤ dw (sm (wtf M u v s t n G) (2 ^ (n * (n - 1) / 2))) k / 2 % sm (wtf M u v s t n G) (2 ^ (n * (n - 1) / 2))) (hx2 : dw (sm (wtf M u v s t n G) (2 ^ (n * (n - 1) / 2))) k / 2 % sm (wtf M u v s t n G) (2 ^ (n * (n - 1) / 2)) < sm (wtf M u v s t n G) (j + 1))
    (h : ∀ mY' f_yt' f_ye' f_yw', YT mY' f_yt' → post (nI j) (nI j) (lN (dw (sm (wtf M u v s t n G) (2 ^ (n * (n - 1) / 2))) k)) mY' (nI M) f_yt' f_ye' f_yw') : wp_X7_drawn (nI M) (nI n) (nI (n * (n - 1) / 2)) (nI u) (nI v) (nI s) (nI t) (nI G) (lN k) mY mM f_yt f_ye f_yw post := by
  have ht := two_lt hM.2.2.2.2.2.1
  have tl := tot_lt hM
  have tp := tot_pos hM h1
  refine s_isModel7 hM.1 (yes1 (s_ready hn1 hM hY (fun y yt ye yw hy1 hy2 hy3 hy4 => s_totalOf hn1 hM hy1 hy2 hy3 hy4 (s_draw tp tl hk ?_))))
  generalize dw (sm (wtf M u v s t n G) (2 ^ (n * (n - 1) / 2))) k = K at h hx1 hx2 ⊢
  generalize K / 2 % sm (wtf M u v s t n G) (2 ^ (n * (n - 1) / 2)) = x at hx1 hx2 ⊢
  have i3 : sm (wtf M u v s t n G) (j + 1) ≤ sm (wtf M u v s t n G) (2 ^ (n * (n - 1) / 2)) := sm_incl (by omega)
  have t2 : sm (wtf M u v s t n G) (2 ^ (n * (n - 1) / 2)) < 2 ^ 51 := by omega
  clear tl tp
  have H : ∀ d g L, g + d = j → L + sm (wtf M u v s t n G) g = x → b_X7_drawn_26 (nI n) (nI (n * (n - 1) / 2)) (nI u) (nI v) (nI s) (nI t) post (d + 1) (lN L) (nI g) (nI G) (lN K) y (nI M) yt ye yw := by
    intro d
    induction d with
    | zero =>
      intro g L hd hL
      have gj : g = j := by omega
      rw [gj] at hL ⊢
      have wl := wtf_lt hM (g := j) hj
      have hp := p15
      have e1 : sm (wtf M u v s t n G) (j + 1) = sm (wtf M u v s t n G) j + wtf M u v s t n G j := rfl
      unfold b_X7_drawn_26
      refine s_weightOf hn1 hM hj hy1 hy2 hy3 hy4 ?_
      rw [lg_cmp_lt, pk_lLT (by omega) (by omega)]
      exact ⟨fun _ => h _ _ _ _ hy1, fun c => absurd (by omega) c⟩
    | succ d ih =>
      intro g L hd hL
      have gl : g < 2 ^ (n * (n - 1) / 2) := by omega
      have wl := wtf_lt hM (g := g) gl
      have hp := p15
      have i1 : sm (wtf M u v s t n G) (g + 1) ≤ sm (wtf M u v s t n G) j := sm_incl (by omega)
      have e1 : sm (wtf M u v s t n G) (g + 1) = sm (wtf M u v s t n G) g + wtf M u v s t n G g := rfl
      unfold b_X7_drawn_26
      refine s_weightOf hn1 hM gl hy1 hy2 hy3 hy4 ?_
      rw [lg_cmp_lt, pk_lLT (by omega) (by omega)]
      refine ⟨fun c => absurd c (by omega), fun _ => s_weightOf hn1 hM gl hy1 hy2 hy3 hy4 ?_⟩
      rw [lN_sub (by omega), nI_1]
      exact ih (g + 1) (L - wtf M u v s t n G g) (by omega) (by omega)
  exact ⟨j + 1, H j 0 x (Nat.zero_add j) (Nat.add_zero x)⟩
