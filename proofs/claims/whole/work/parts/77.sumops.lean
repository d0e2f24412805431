/-! the calls with sums, both sides at once -/
def KP (kn cu su : Nat) (f_ke : Nat → Int32) : Prop := ∃ l, l ≤ 15 ∧ kn = 2 ^ l ∧ cu ≤ 31 + l ∧ su ≤ 66073 + 2 * kn ∧ KE kn f_ke
def NU (n G u v s t : Nat) : Prop := 1 ≤ n ∧ (u ≤ v ∧ v ≤ 10 ∧ s ≤ 3 ∧ t ≤ 2 ∧ n ≤ 6 ∧ gr n G) ∧ MQ1 v s t
theorem KP_b {kn cu su : Nat} {f_ke : Nat → Int32} (h : KP kn cu su f_ke) : kn ≤ 32768 ∧ KE kn f_ke ∧ cu ≤ 600000 ∧ su ≤ 7302250 := by
  obtain ⟨l, h1, h2, h3, h4, h5⟩ := h
  have : 2 ^ l ≤ 2 ^ 15 := Nat.pow_le_pow_right (by decide) h1
  exact ⟨by omega, h5, by omega, by omega⟩
theorem gro {n kn cu su K : Nat} {f_ke : Nat → Int32} (hn : n ≤ 6) (h : KP kn cu su f_ke) (hK : K = kn ∨ (kn < K ∧ K = 2 ^ (n * (n - 1) / 2))) : ∃ mc ms : Nat, cu + mc ≤ 600000 ∧ su + ms ≤ 7302250 ∧ (kn < K → 1 ≤ mc ∧ 2 ^ (n * (n - 1) / 2) ≤ ms) ∧ ∀ f', KE K f' → KP K (cu + mc) (su + ms) f' := by
  have b := KP_b h
  obtain ⟨l, h1, h2, h3, h4, h5⟩ := h
  rcases hK with e | ⟨e1, e2⟩
  · subst e
    exact ⟨0, 0, by omega, by omega, fun q => absurd q (Nat.lt_irrefl _), fun f' hf => ⟨l, h1, h2, h3, h4, hf⟩⟩
  · have P15 := np15 hn
    have t2 := two_lt hn
    have lP : l < n * (n - 1) / 2 := by
      rw [h2, e2] at e1
      exact (Nat.pow_lt_pow_iff_right (by decide)).mp e1
    have dbl : 2 * 2 ^ l ≤ 2 ^ (n * (n - 1) / 2) := by
      have : 2 ^ (l + 1) ≤ 2 ^ (n * (n - 1) / 2) := Nat.pow_le_pow_right (by decide) lP
      rw [Nat.pow_succ] at this
      omega
    refine ⟨1, 2 ^ (n * (n - 1) / 2), by omega, by omega, fun _ => ⟨by omega, by omega⟩, fun f' hf => ⟨n * (n - 1) / 2, P15, e2, by omega, ?_, hf⟩⟩
    rw [e2]
    omega
theorem kpr_or (M t n kn : Nat) : kpr M t n kn = kn ∨ (kn < kpr M t n kn ∧ kpr M t n kn = 2 ^ (n * (n - 1) / 2)) := by
  unfold kpr
  split
  · generalize 2 ^ (n * (n - 1) / 2) = z
    omega
  · exact Or.inl rfl
theorem kod_or (M t n kn w : Nat) : kod M t n kn w = kn ∨ (kn < kod M t n kn w ∧ kod M t n kn w = 2 ^ (n * (n - 1) / 2)) := by
  have := kpr_or M t n kn
  unfold kod
  split
  · exact this
  · generalize 2 ^ (n * (n - 1) / 2) = z at *
    omega
section
variable {V1 V2 V3 V4 : Prop} {n G u v s t kn cu su : Nat} {wm wo wn mY mM mW mR : Int32} {f_be f_bt f_ye : Nat → Int64} {f_dg f_tw f_tr f_lo f_hi f_st f_ke f_yl f_yr f_yt f_yw : Nat → Int32}
theorem t7 {w : Nat} {post : Int32 → Prop} (hw : w ≤ 7) (h : post 1) : wp_X7_in (nI w).toInt64 (0 : Int64) (7 : Int64) post := by
  rw [nI_l (by omega)]
  exact s_in (l := 0) (h := 7) (by omega) (by omega) hw (by omega) h
theorem o_many {x : Int32} {C : Int32 → Int32 → Int32 → (Nat → Int64) → (Nat → Int64) → (Nat → Int32) → Nat → (Nat → Int32) → Int32 → Int32 → (Nat → Int32) → (Nat → Int64) → (Nat → Int32) → Nat → Nat → Prop} (hV1 : V1) (hN : NU n G u v s t) (hT : TB f_tw f_tr f_lo f_hi f_st) (hK : KP kn cu su f_ke) (hY : YT mY f_yt) (h : (∀ a1 a2 a3 a4 a5 a6 a7 a8 b1 b2 b3 b4 b5 cu2 su2, KP a7 cu2 su2 a8 → YT b1 b3 → C a1 a2 a3 a4 a5 a6 a7 a8 b1 b2 b3 b4 b5 cu2 su2)) :
    ∃ mc ms : Nat, cu + mc ≤ 600000 ∧ su + ms ≤ 7302250 ∧ wp_X6_many x (nI n) (nI (2 ^ (n * (n - 1) / 2))) (nI G) (nI u) (nI v) (nI s) (nI t) (nI (smk f_yl 15)) f_tw f_tr f_lo f_hi f_st wm wo wn f_be f_bt f_dg kn f_ke mc ms (fun r a1 a2 a3 a4 a5 a6 a7 a8 => V1 ∧ wp_X7_many x (nI n) (nI (n * (n - 1) / 2)) (nI G) (nI u) (nI v) (nI s) (nI t) mY mM f_yt f_ye f_yw (fun r' b1 b2 b3 b4 b5 => (r = r' → C a1 a2 a3 a4 a5 a6 a7 a8 b1 b2 b3 b4 b5 (cu + mc) (su + ms)) ∧ (¬ r = r' → False))) := by
  obtain ⟨hn1, hq, h1⟩ := id hN
  have hn : n ≤ 6 := hq.2.2.2.2.1
  obtain ⟨kb, hKE, hcu, hsu⟩ := KP_b hK
  have hold := h wm wo wn f_be f_bt f_dg kn f_ke mY mM f_yt f_ye f_yw cu su hK hY
  rcases kd x 0 3 (by omega) with ⟨M, _, hM3, rfl⟩ | o
  · have hMP : MP M u v s t n G := ⟨by omega, hq⟩
    obtain ⟨mc, ms, c1, c2, c3, c4⟩ := gro hn hK (kpr_or M t n kn)
    exact ⟨mc, ms, c1, c2, s_many6 hT hMP (smk_lt f_yl 15) kb hKE c3 (fun a1 a2 a3 a4 hk => ⟨hV1, s_many7 hn1 hMP hY (fun b1 b2 b3 b4 hy => sm1 (h _ _ _ _ _ _ _ _ _ _ _ _ _ _ _ (c4 _ hk) hy))⟩)⟩
  · exact ⟨0, 0, by omega, by omega, n_model6 o (no0 ⟨hV1, n_model7 o (no0 (sm1 hold))⟩)⟩
theorem o_total {x : Int32} {C : Int32 → Int32 → Int32 → (Nat → Int64) → (Nat → Int64) → (Nat → Int32) → Nat → (Nat → Int32) → Int32 → Int32 → (Nat → Int32) → (Nat → Int64) → (Nat → Int32) → Nat → Nat → Prop} (hV1 : V1) (hN : NU n G u v s t) (hT : TB f_tw f_tr f_lo f_hi f_st) (hK : KP kn cu su f_ke) (hY : YT mY f_yt) (h : (∀ a1 a2 a3 a4 a5 a6 a7 a8 b1 b2 b3 b4 b5 cu2 su2, KP a7 cu2 su2 a8 → YT b1 b3 → C a1 a2 a3 a4 a5 a6 a7 a8 b1 b2 b3 b4 b5 cu2 su2)) :
    ∃ mc ms : Nat, cu + mc ≤ 600000 ∧ su + ms ≤ 7302250 ∧ wp_X6_total x (nI n) (nI (2 ^ (n * (n - 1) / 2))) (nI G) (nI u) (nI v) (nI s) (nI t) (nI (smk f_yl 15)) f_tw f_tr f_lo f_hi f_st wm wo wn f_be f_bt f_dg kn f_ke mc ms (fun r a1 a2 a3 a4 a5 a6 a7 a8 => V1 ∧ wp_X7_total x (nI n) (nI (n * (n - 1) / 2)) (nI G) (nI u) (nI v) (nI s) (nI t) mY mM f_yt f_ye f_yw (fun r' b1 b2 b3 b4 b5 => (lg_cmp r r' = 0 → C a1 a2 a3 a4 a5 a6 a7 a8 b1 b2 b3 b4 b5 (cu + mc) (su + ms)) ∧ (¬ lg_cmp r r' = 0 → False))) := by
  obtain ⟨hn1, hq, h1⟩ := id hN
  have hn : n ≤ 6 := hq.2.2.2.2.1
  obtain ⟨kb, hKE, hcu, hsu⟩ := KP_b hK
  have hold := h wm wo wn f_be f_bt f_dg kn f_ke mY mM f_yt f_ye f_yw cu su hK hY
  rcases kd x 0 3 (by omega) with ⟨M, _, hM3, rfl⟩ | o
  · have hMP : MP M u v s t n G := ⟨by omega, hq⟩
    obtain ⟨mc, ms, c1, c2, c3, c4⟩ := gro hn hK (kpr_or M t n kn)
    exact ⟨mc, ms, c1, c2, s_total6 hT hMP (smk_lt f_yl 15) kb hKE c3 (fun a1 a2 a3 a4 hk => ⟨hV1, s_total7 hn1 hMP hY (fun b1 b2 b3 b4 hy => sml (h _ _ _ _ _ _ _ _ _ _ _ _ _ _ _ (c4 _ hk) hy))⟩)⟩
  · exact ⟨0, 0, by omega, by omega, n_model6 o (no0 ⟨hV1, n_model7 o (no0 (sml hold))⟩)⟩
theorem o_likely {x y : Int32} {C : Int32 → Int32 → Int32 → (Nat → Int64) → (Nat → Int64) → (Nat → Int32) → Nat → (Nat → Int32) → Int32 → Int32 → (Nat → Int32) → (Nat → Int64) → (Nat → Int32) → Nat → Nat → Prop} (hV1 : V1) (hV2 : V2) (hN : NU n G u v s t) (hT : TB f_tw f_tr f_lo f_hi f_st) (hK : KP kn cu su f_ke) (hY : YT mY f_yt) (h : (∀ a1 a2 a3 a4 a5 a6 a7 a8 b1 b2 b3 b4 b5 cu2 su2, KP a7 cu2 su2 a8 → YT b1 b3 → C a1 a2 a3 a4 a5 a6 a7 a8 b1 b2 b3 b4 b5 cu2 su2)) :
    ∃ mc ms : Nat, cu + mc ≤ 600000 ∧ su + ms ≤ 7302250 ∧ wp_X6_likely x y (nI n) (nI (2 ^ (n * (n - 1) / 2))) (nI G) (nI u) (nI v) (nI s) (nI t) (nI (smk f_yl 15)) f_tw f_tr f_lo f_hi f_st wm wo wn f_be f_bt f_dg kn f_ke mc ms (fun r a1 a2 a3 a4 a5 a6 a7 a8 => V1 ∧ V2 ∧ wp_X7_likely x y (nI n) (nI (n * (n - 1) / 2)) (nI G) (nI u) (nI v) (nI s) (nI t) mY mM f_yt f_ye f_yw (fun r' b1 b2 b3 b4 b5 => (lg_cmp r r' = 0 → C a1 a2 a3 a4 a5 a6 a7 a8 b1 b2 b3 b4 b5 (cu + mc) (su + ms)) ∧ (¬ lg_cmp r r' = 0 → False))) := by
  obtain ⟨hn1, hq, h1⟩ := id hN
  have hn : n ≤ 6 := hq.2.2.2.2.1
  obtain ⟨kb, hKE, hcu, hsu⟩ := KP_b hK
  have hold := h wm wo wn f_be f_bt f_dg kn f_ke mY mM f_yt f_ye f_yw cu su hK hY
  rcases kd x 0 3 (by omega) with ⟨M, _, hM3, rfl⟩ | o
  · rcases kd y 0 1 (by omega) with ⟨p, _, hp, rfl⟩ | o
    · have hMP : MP M u v s t n G := ⟨by omega, hq⟩
      obtain ⟨mc, ms, c1, c2, c3, c4⟩ := gro hn hK (kpr_or M t n kn)
      exact ⟨mc, ms, c1, c2, s_likely6 hT hMP (smk_lt f_yl 15) kb hKE h1 (by omega : p < 2) c3 (fun a1 a2 a3 a4 hk => ⟨hV1, hV2, s_likely7 hn1 hMP hY h1 (by omega : p < 2) (fun b1 b2 b3 b4 hy => sml (h _ _ _ _ _ _ _ _ _ _ _ _ _ _ _ (c4 _ hk) hy))⟩)⟩
    · exact ⟨0, 0, by omega, by omega, s_isModel6 (by omega) (yes1 (n_side6 o (no0 ⟨hV1, hV2, s_isModel7 (by omega) (yes1 (n_half7 o (no0 (sml hold))))⟩)))⟩
  · exact ⟨0, 0, by omega, by omega, n_model6 o (no0 ⟨hV1, hV2, n_model7 o (no0 (sml hold))⟩)⟩
theorem o_pair {x y z c : Int32} {C : Int32 → Int32 → Int32 → (Nat → Int64) → (Nat → Int64) → (Nat → Int32) → Nat → (Nat → Int32) → Int32 → Int32 → (Nat → Int32) → (Nat → Int64) → (Nat → Int32) → Nat → Nat → Prop} (hV1 : V1) (hV2 : V2) (hV3 : V3) (hV4 : V4) (hN : NU n G u v s t) (hT : TB f_tw f_tr f_lo f_hi f_st) (hK : KP kn cu su f_ke) (hY : YT mY f_yt) (h : (∀ a1 a2 a3 a4 a5 a6 a7 a8 b1 b2 b3 b4 b5 cu2 su2, KP a7 cu2 su2 a8 → YT b1 b3 → C a1 a2 a3 a4 a5 a6 a7 a8 b1 b2 b3 b4 b5 cu2 su2)) :
    ∃ mc ms : Nat, cu + mc ≤ 600000 ∧ su + ms ≤ 7302250 ∧ wp_X6_pair x y z c (nI n) (nI (2 ^ (n * (n - 1) / 2))) (nI G) (nI u) (nI v) (nI s) (nI t) (nI (smk f_yl 15)) f_tw f_tr f_lo f_hi f_st wm wo wn f_be f_bt f_dg kn f_ke mc ms (fun r a1 a2 a3 a4 a5 a6 a7 a8 => V1 ∧ V2 ∧ V3 ∧ V4 ∧ wp_X7_pair x y z c (nI n) (nI (n * (n - 1) / 2)) (nI G) (nI u) (nI v) (nI s) (nI t) mY mM f_yt f_ye f_yw (fun r' b1 b2 b3 b4 b5 => (lg_cmp r r' = 0 → C a1 a2 a3 a4 a5 a6 a7 a8 b1 b2 b3 b4 b5 (cu + mc) (su + ms)) ∧ (¬ lg_cmp r r' = 0 → False))) := by
  obtain ⟨hn1, hq, h1⟩ := id hN
  have hn : n ≤ 6 := hq.2.2.2.2.1
  obtain ⟨kb, hKE, hcu, hsu⟩ := KP_b hK
  have hold := h wm wo wn f_be f_bt f_dg kn f_ke mY mM f_yt f_ye f_yw cu su hK hY
  rcases kd x 0 3 (by omega) with ⟨M, _, hM3, rfl⟩ | o
  · by_cases g : gp n y z
    · obtain ⟨a, b, ha, hb, hab, rfl, rfl⟩ := g
      rcases kd c 0 1 (by omega) with ⟨p, _, hp, rfl⟩ | o
      · have hMP : MP M u v s t n G := ⟨by omega, hq⟩
        obtain ⟨mc, ms, c1, c2, c3, c4⟩ := gro hn hK (kpr_or M t n kn)
        exact ⟨mc, ms, c1, c2, s_pair6 hT hMP (smk_lt f_yl 15) kb hKE h1 (by omega : p < 2) (fun post hp => y_pair6 hn ha hb hab hp) ha hb hab c3 (fun a1 a2 a3 a4 hk => ⟨hV1, hV2, hV3, hV4, s_pair7 hn1 hMP hY h1 (by omega : p < 2) ha hb hab (fun b1 b2 b3 b4 hy => sml (h _ _ _ _ _ _ _ _ _ _ _ _ _ _ _ (c4 _ hk) hy))⟩)⟩
      · exact ⟨0, 0, by omega, by omega, s_isModel6 (by omega) (yes1 (y_pair6 hn ha hb hab (yes1 (n_side6 o (no0 ⟨hV1, hV2, hV3, hV4, s_isModel7 (by omega) (yes1 (y_pair7 hn1 hn ha hb hab (n_half7 o (no0 (sml hold)))))⟩)))))⟩
    · exact ⟨0, 0, by omega, by omega, s_isModel6 (by omega) (yes1 (n_pair6 hn1 hn g (no0 ⟨hV1, hV2, hV3, hV4, s_isModel7 (by omega) (yes1 (n_pair7 hn1 hn g (sml hold)))⟩)))⟩
  · exact ⟨0, 0, by omega, by omega, n_model6 o (no0 ⟨hV1, hV2, hV3, hV4, n_model7 o (no0 (sml hold))⟩)⟩
theorem o_mean {x y z : Int32} {C : Int32 → Int32 → Int32 → (Nat → Int64) → (Nat → Int64) → (Nat → Int32) → Nat → (Nat → Int32) → Int32 → Int32 → Int32 → Int32 → (Nat → Int32) → (Nat → Int32) → (Nat → Int64) → (Nat → Int32) → Nat → Nat → Prop} (hV1 : V1) (hV2 : V2) (hV3 : V3) (hN : NU n G u v s t) (hT : TB f_tw f_tr f_lo f_hi f_st) (hK : KP kn cu su f_ke) (hY : YT mY f_yt) (hR : YR mW mR f_yr) (h : (∀ a1 a2 a3 a4 a5 a6 a7 a8 b1 b2 b3 b4 b5 b6 b7 b8 cu2 su2, KP a7 cu2 su2 a8 → YR b1 b2 b5 → YT b3 b6 → C a1 a2 a3 a4 a5 a6 a7 a8 b1 b2 b3 b4 b5 b6 b7 b8 cu2 su2)) :
    ∃ mc ms : Nat, cu + mc ≤ 600000 ∧ su + ms ≤ 7302250 ∧ wp_X6_mean x y z (nI n) (nI (2 ^ (n * (n - 1) / 2))) (nI G) (nI u) (nI v) (nI s) (nI t) (nI (smk f_yl 15)) f_tw f_tr f_lo f_hi f_st wm wo wn f_be f_bt f_dg kn f_ke mc ms (fun r a1 a2 a3 a4 a5 a6 a7 a8 => V1 ∧ V2 ∧ V3 ∧ wp_X7_mean x y z (nI n) (nI (n * (n - 1) / 2)) (nI G) (nI u) (nI v) (nI s) (nI t) f_yl mW mR mY mM f_yr f_yt f_ye f_yw (fun r' b1 b2 b3 b4 b5 b6 b7 b8 => (lg_cmp r r' = 0 → C a1 a2 a3 a4 a5 a6 a7 a8 b1 b2 b3 b4 b5 b6 b7 b8 (cu + mc) (su + ms)) ∧ (¬ lg_cmp r r' = 0 → False))) := by
  obtain ⟨hn1, hq, h1⟩ := id hN
  have hn : n ≤ 6 := hq.2.2.2.2.1
  obtain ⟨kb, hKE, hcu, hsu⟩ := KP_b hK
  have hold := h wm wo wn f_be f_bt f_dg kn f_ke mW mR mY mM f_yr f_yt f_ye f_yw cu su hK hR hY
  rcases kd x 0 3 (by omega) with ⟨M, _, hM3, rfl⟩ | o
  · rcases kd y 0 7 (by omega) with ⟨w, _, hw, rfl⟩ | o
    · rcases kd z 0 1 (by omega) with ⟨p, _, hp, rfl⟩ | o
      · have hMP : MP M u v s t n G := ⟨by omega, hq⟩
        obtain ⟨mc, ms, c1, c2, c3, c4⟩ := gro hn hK (kod_or M t n kn w)
        exact ⟨mc, ms, c1, c2, s_mean6 hT hMP (smk_lt f_yl 15) kb hKE h1 (by omega : w < 8) (by omega : p < 2) c3 (fun a1 a2 a3 a4 hk => ⟨hV1, hV2, hV3, s_mean7 hn1 hMP hY h1 (by omega : w < 8) (by omega : p < 2) hR (fun b1 b2 b3 b4 b5 b6 b7 hr hy => sml (h _ _ _ _ _ _ _ _ _ _ _ _ _ _ _ _ _ _ (c4 _ hk) hr hy))⟩)⟩
      · exact ⟨0, 0, by omega, by omega, s_isModel6 (by omega) (yes1 (s_isThing6 (by omega) (yes1 (n_side6 o (no0 ⟨hV1, hV2, hV3, s_isModel7 (by omega) (yes1 (t7 hw (yes1 (n_half7 o (no0 (sml hold))))))⟩)))))⟩
    · exact ⟨0, 0, by omega, by omega, s_isModel6 (by omega) (yes1 (n_thing6 o (no0 ⟨hV1, hV2, hV3, s_isModel7 (by omega) (yes1 (r_no (l := 0) (h := 7) (by omega) (by omega) o (no0 (sml hold))))⟩)))⟩
  · exact ⟨0, 0, by omega, by omega, n_model6 o (no0 ⟨hV1, hV2, hV3, n_model7 o (no0 (sml hold))⟩)⟩
theorem o_odds {x y z c : Int32} {C : Int32 → Int32 → Int32 → (Nat → Int64) → (Nat → Int64) → (Nat → Int32) → Nat → (Nat → Int32) → Int32 → Int32 → Int32 → Int32 → (Nat → Int32) → (Nat → Int32) → (Nat → Int64) → (Nat → Int32) → Nat → Nat → Prop} (hV1 : V1) (hV2 : V2) (hV3 : V3) (hV4 : V4) (hN : NU n G u v s t) (hT : TB f_tw f_tr f_lo f_hi f_st) (hK : KP kn cu su f_ke) (hY : YT mY f_yt) (hR : YR mW mR f_yr) (h : (∀ a1 a2 a3 a4 a5 a6 a7 a8 b1 b2 b3 b4 b5 b6 b7 b8 cu2 su2, KP a7 cu2 su2 a8 → YR b1 b2 b5 → YT b3 b6 → C a1 a2 a3 a4 a5 a6 a7 a8 b1 b2 b3 b4 b5 b6 b7 b8 cu2 su2)) :
    ∃ mc ms : Nat, cu + mc ≤ 600000 ∧ su + ms ≤ 7302250 ∧ wp_X6_odds x y z c (nI n) (nI (2 ^ (n * (n - 1) / 2))) (nI G) (nI u) (nI v) (nI s) (nI t) (nI (smk f_yl 15)) f_tw f_tr f_lo f_hi f_st wm wo wn f_be f_bt f_dg kn f_ke mc ms (fun r a1 a2 a3 a4 a5 a6 a7 a8 => V1 ∧ V2 ∧ V3 ∧ V4 ∧ wp_X7_odds x y z c (nI n) (nI (n * (n - 1) / 2)) (nI G) (nI u) (nI v) (nI s) (nI t) f_yl mW mR mY mM f_yr f_yt f_ye f_yw (fun r' b1 b2 b3 b4 b5 b6 b7 b8 => (lg_cmp r r' = 0 → C a1 a2 a3 a4 a5 a6 a7 a8 b1 b2 b3 b4 b5 b6 b7 b8 (cu + mc) (su + ms)) ∧ (¬ lg_cmp r r' = 0 → False))) := by
  obtain ⟨hn1, hq, h1⟩ := id hN
  have hn : n ≤ 6 := hq.2.2.2.2.1
  obtain ⟨kb, hKE, hcu, hsu⟩ := KP_b hK
  have hold := h wm wo wn f_be f_bt f_dg kn f_ke mW mR mY mM f_yr f_yt f_ye f_yw cu su hK hR hY
  rcases kd x 0 3 (by omega) with ⟨M, _, hM3, rfl⟩ | o
  · rcases kd y 0 7 (by omega) with ⟨w, _, hw, rfl⟩ | o
    · rcases kd z 0 1 (by omega) with ⟨e, _, he, rfl⟩ | o
      · rcases kd c 0 1 (by omega) with ⟨p, _, hp, rfl⟩ | o
        · have hMP : MP M u v s t n G := ⟨by omega, hq⟩
          obtain ⟨mc, ms, c1, c2, c3, c4⟩ := gro hn hK (kod_or M t n kn w)
          exact ⟨mc, ms, c1, c2, s_odds6 hT hMP (smk_lt f_yl 15) kb hKE h1 (by omega : w < 8) (by omega : e < 2) (by omega : p < 2) c3 (fun a1 a2 a3 a4 hk => ⟨hV1, hV2, hV3, hV4, s_odds7 hn1 hMP hY h1 (by omega : w < 8) (by omega : e < 2) (by omega : p < 2) hR (fun b1 b2 b3 b4 b5 b6 b7 hr hy => sml (h _ _ _ _ _ _ _ _ _ _ _ _ _ _ _ _ _ _ (c4 _ hk) hr hy))⟩)⟩
        · exact ⟨0, 0, by omega, by omega, s_isModel6 (by omega) (yes1 (s_isThing6 (by omega) (yes1 (s_isSide6 (by omega) (yes1 (n_side6 o (no0 ⟨hV1, hV2, hV3, hV4, s_isModel7 (by omega) (yes1 (t7 hw (yes1 (s_isHalf7 (by omega) (yes1 (n_half7 o (no0 (sml hold))))))))⟩)))))))⟩
      · exact ⟨0, 0, by omega, by omega, s_isModel6 (by omega) (yes1 (s_isThing6 (by omega) (yes1 (n_side6 o (no0 ⟨hV1, hV2, hV3, hV4, s_isModel7 (by omega) (yes1 (t7 hw (yes1 (n_half7 o (no0 (sml hold))))))⟩)))))⟩
    · exact ⟨0, 0, by omega, by omega, s_isModel6 (by omega) (yes1 (n_thing6 o (no0 ⟨hV1, hV2, hV3, hV4, s_isModel7 (by omega) (yes1 (r_no (l := 0) (h := 7) (by omega) (by omega) o (no0 (sml hold))))⟩)))⟩
  · exact ⟨0, 0, by omega, by omega, n_model6 o (no0 ⟨hV1, hV2, hV3, hV4, n_model7 o (no0 (sml hold))⟩)⟩
theorem o_drawn {x : Int32} {k : Nat} {C : Int32 → Int32 → Int32 → Int32 → (Nat → Int64) → (Nat → Int64) → (Nat → Int32) → Nat → (Nat → Int32) → Int64 → Int32 → Int64 → Int32 → Int32 → (Nat → Int32) → (Nat → Int64) → (Nat → Int32) → Nat → Nat → Prop} (hV1 : V1) (hN : NU n G u v s t) (hT : TB f_tw f_tr f_lo f_hi f_st) (hK : KP kn cu su f_ke) (hY : YT mY f_yt) (hk64 : k < 18446744073709551616) (h : ∀ G' k' a2 a3 a4 a5 a6 a7 a8 a9 b3 b4 b5 b6 b7 cu2 su2, gr n G' → k' < 18446744073709551616 → KP a8 cu2 su2 a9 → YT b3 b5 → C (nI G') a2 a3 a4 a5 a6 a7 a8 a9 (lN k') (nI G') (lN k') b3 b4 b5 b6 b7 cu2 su2) :
    ∃ mc ms : Nat, cu + mc ≤ 600000 ∧ su + ms ≤ 7302250 ∧ wp_X6_drawn x (nI n) (nI (2 ^ (n * (n - 1) / 2))) (nI u) (nI v) (nI s) (nI t) (nI (smk f_yl 15)) f_tw f_tr f_lo f_hi f_st (nI G) wm wo wn f_be f_bt f_dg kn f_ke (lN k) mc ms (fun r a1 a2 a3 a4 a5 a6 a7 a8 a9 a10 => V1 ∧ wp_X7_drawn x (nI n) (nI (n * (n - 1) / 2)) (nI u) (nI v) (nI s) (nI t) (nI G) (lN k) mY mM f_yt f_ye f_yw (fun r' b1 b2 b3 b4 b5 b6 b7 => (r = r' → C a1 a2 a3 a4 a5 a6 a7 a8 a9 a10 b1 b2 b3 b4 b5 b6 b7 (cu + mc) (su + ms)) ∧ (¬ r = r' → False))) := by
  obtain ⟨hn1, hq, h1⟩ := id hN
  have hn : n ≤ 6 := hq.2.2.2.2.1
  obtain ⟨kb, hKE, hcu, hsu⟩ := KP_b hK
  rcases kd x 0 3 (by omega) with ⟨M, _, hM3, rfl⟩ | o
  · have hMP : MP M u v s t n G := ⟨by omega, hq⟩
    obtain ⟨mc, ms, c1, c2, c3, c4⟩ := gro hn hK (kpr_or M t n kn)
    have tp := tot_pos hMP h1
    obtain ⟨j, hj, hj1, hj2⟩ := pick (f := wtf M u v s t n G) (x := dw (sm (wtf M u v s t n G) (2 ^ (n * (n - 1) / 2))) k / 2 % sm (wtf M u v s t n G) (2 ^ (n * (n - 1) / 2))) (2 ^ (n * (n - 1) / 2)) (Nat.mod_lt _ (by omega))
    exact ⟨mc, ms, c1, c2, s_drawn6 hT hMP (smk_lt f_yl 15) kb hKE h1 c3 hk64 hj hj1 hj2 (fun a1 a2 a3 a4 hk => ⟨hV1, s_drawn7 hn1 hMP hY h1 hk64 hj hj1 hj2 (fun b1 b2 b3 b4 hy => sm1 (h _ _ _ _ _ _ _ _ _ _ _ _ _ _ _ _ _ hj (dw_lt hk64) (c4 _ hk) hy))⟩)⟩
  · exact ⟨0, 0, by omega, by omega, n_model6 o (no0 ⟨hV1, n_model7 o (no0 (sm1 (h G k wm wo wn f_be f_bt f_dg kn f_ke mY mM f_yt f_ye f_yw cu su hq.2.2.2.2.2 hk64 hK hY)))⟩)⟩
end
