/-! the calls without sums, both sides at once -/
theorem smk_ext {f h : Nat → Int32} (e : ∀ a, a < 6 → f a = h a) : smk f 15 = smk h 15 := by
  refine ext15 (smk_lt f 15) (smk_lt h 15) (fun q hq => ?_)
  obtain ⟨l1, l2, l3⟩ := lohi q hq
  rw [smk_bit, smk_bit, e (lo q) (by omega), e (hi q) l2]
theorem o_begin {V : Prop} {x rn rs rg sl wf mN mP mG mB : Int32} {f_lb f_yl : Nat → Int32} {C : Int32 → Int32 → Int32 → (Nat → Int32) → Int32 → Int32 → Int32 → Int32 → Int32 → Int32 → (Nat → Int32) → Prop} (hV : V) (h0 : C rn rs rg f_lb sl wf mN mP mG mB f_yl)
    (h : ∀ m f f', 1 ≤ m → m ≤ 6 → (∀ a, a < 6 → f a = f' a) → C (nI m) (nI (2 ^ (m * (m - 1) / 2))) (nI 0) f (nI (smk f' 15)) 0 (nI m) (nI (m * (m - 1) / 2)) (nI 0) 0 f') :
    wp_X6_begin x rn rs rg f_lb sl wf (fun r a1 a2 a3 a4 a5 a6 => V ∧ wp_X7_begin x mN mP mG mB f_yl (fun r' b1 b2 b3 b4 b5 => (r = r' → C a1 a2 a3 a4 a5 a6 b1 b2 b3 b4 b5) ∧ (¬ r = r' → False))) := by
  rcases kd x 1 6 (by omega) with ⟨m, h1, h6, rfl⟩ | o
  · refine c_lt (b := 1) (by omega) (by omega) (fun q => by omega) (fun _ => c_le (b := 6) (by omega) (by omega) (fun _ => s_among (by omega) ?_) (fun q => by omega))
    rw [two_np h6]
    have L := lp0 (fun k j => ∀ f : Nat → Int32, (∀ a, a < j → f a = 0) → b_X6_begin_35 (fun r a1 a2 a3 a4 a5 a6 => V ∧ wp_X7_begin (nI m) mN mP mG mB f_yl (fun r' b1 b2 b3 b4 b5 => (r = r' → C a1 a2 a3 a4 a5 a6 b1 b2 b3 b4 b5) ∧ (¬ r = r' → False))) k (nI m) (nI j) (nI m) (nI (2 ^ (m * (m - 1) / 2))) 0 f sl wf) 0 6 (by omega) (fun k f hf => c_le (a := 6) (by omega) (by omega) (fun _ => s_ofSameLabel ?_) (fun q => by omega)) (fun k j _ hj ih f hf => c_le (a := 6) (by omega) (by omega) (fun q => by omega) (fun _ => ⟨vp_in_nI (by omega) (by omega), ?_⟩))
    · obtain ⟨k, H⟩ := L
      exact ⟨k, H f_lb (fun a ha => by omega)⟩
    · show wp_X1_among (nI m) (fun r10 => V ∧ wp_X7_begin (nI m) mN mP mG mB f_yl (fun r' b1 b2 b3 b4 b5 => (r10 = r' → C (nI m) (nI (2 ^ (m * (m - 1) / 2))) 0 f (nI (smk f 15)) 0 b1 b2 b3 b4 b5) ∧ (¬ r10 = r' → False)))
      refine s_among (by omega) ⟨hV, ?_⟩
      unfold wp_X7_begin
      rw [nI_l (by omega)]
      refine s_in (l := 1) (h := 6) (by omega) h1 h6 (by omega) (yes1 ⟨two_ne, ?_⟩)
      rw [among_eq m (by omega)]
      have L2 := lp0 (fun k j => ∀ g : Nat → Int32, (∀ a, a < j → g a = 0) → b_X7_begin_48 (fun r' b1 b2 b3 b4 b5 => (nI (m * (m - 1) / 2) = r' → C (nI m) (nI (2 ^ (m * (m - 1) / 2))) 0 f (nI (smk f 15)) 0 b1 b2 b3 b4 b5) ∧ (¬ nI (m * (m - 1) / 2) = r' → False)) k (nI j) (nI m) (nI (m * (m - 1) / 2)) 0 0 g) 0 6 (by omega) (fun k g hg => c_le (a := 6) (by omega) (by omega) (fun _ => sm1 ?_) (fun q => by omega)) (fun k j _ hj ih g hg => c_le (a := 6) (by omega) (by omega) (fun q => by omega) (fun _ => ⟨vp_in_nI (by omega) (by omega), ?_⟩))
      · obtain ⟨k2, H2⟩ := L2
        exact ⟨k2, H2 f_yl (fun a ha => by omega)⟩
      · have e : ∀ a, a < 6 → f a = g a := fun a ha => by rw [hf a ha, hg a ha]
        rw [smk_ext e]
        exact h m f g h1 h6 e
      · rw [nI_1, nI_clamp (by omega)]
        refine ih _ (fun a ha => ?_)
        by_cases c : a = j
        · subst c; exact pk_us
        · rw [pk_un c]; exact hg a (by omega)
    · rw [nI_1, nI_clamp (by omega)]
      refine ih _ (fun a ha => ?_)
      by_cases c : a = j
      · subst c; exact pk_us
      · rw [pk_un c]; exact hf a (by omega)
  · have ref : V ∧ wp_X7_begin x mN mP mG mB f_yl (fun r' b1 b2 b3 b4 b5 => ((-1 : Int32) = r' → C rn rs rg f_lb sl wf b1 b2 b3 b4 b5) ∧ (¬ (-1 : Int32) = r' → False)) := ⟨hV, r_no (l := 1) (h := 6) (by omega) (by omega) o (no0 (sm1 h0))⟩
    refine ⟨fun _ => ref, fun c => ⟨fun c2 => ?_, fun _ => ref⟩⟩
    rw [show (1 : Int32) = nI 1 from rfl, x_lt (by omega)] at c
    rw [show (6 : Int32) = nI 6 from rfl, x_le (by omega)] at c2
    unfold out at o
    omega
theorem o_edge {n G d : Nat} {x y : Int32} {D : Int32 → Int32 → Prop} (h1 : 1 ≤ n) (hn : n ≤ 6) (hG : gr n G) (hd : d < 2)
    (h : ∀ r G', gr n G' → (∀ post : Int32 → Int32 → Prop, post r (nI G') → wp_X7_edge x y (nI d) (nI n) (nI G) post) → D r (nI G')) : wp_X6_edge x y (nI d) (nI n) (nI G) D := by
  have hGl := gr_lt hn hG
  by_cases g : gp n x y
  · obtain ⟨a, b, ha, hb, hab, rfl, rfl⟩ := g
    have pu := pix_up hn ha hb hab
    have p15 := pix_lt a (by omega) b (by omega) hab
    have hlt : ∀ q, n * (n - 1) / 2 ≤ q → bit G q = 0 := fun q hq => by
      unfold gr at hG
      unfold bit
      rw [Nat.div_eq_of_lt (Nat.lt_of_lt_of_le hG (Nat.pow_le_pow_right (by omega) hq))]
    have xg : gr n (G ^^^ 2 ^ pix a b) := Nat.xor_lt_two_pow hG (pow15 pu)
    have xl := gr_lt hn xg
    have og : gr n (G ||| 2 ^ pix a b) := Nat.or_lt_two_pow hG (pow15 pu)
    have ol := gr_lt hn og
    have cl : clr G (pix a b) < 32768 := Nat.lt_of_le_of_lt (clr_le _ _) hGl
    have bo : ∀ q, bit (G ||| 2 ^ pix a b) q = if q = pix a b then 1 else bit G q := fun q => by
      rw [bit_tb, bit_tb, Nat.testBit_or, Nat.testBit_two_pow]
      by_cases c : pix a b = q
      · subst c; simp
      · rw [if_neg (fun z => c z.symm)]; simp [c]
    have hh : hs G a b = bit G (pix a b) := hs_ne hab
    have ref0 : bit G (pix a b) = d → ∀ post : Int32 → Int32 → Prop, post 0 (nI G) → wp_X7_edge (nI a) (nI b) (nI d) (nI n) (nI G) post := fun e post hp => by
      refine y_pair7 h1 hn ha hb hab (s_has (by omega) (by omega) (by omega) ?_)
      rw [hh, e]
      exact ⟨fun _ => hp, fun q => absurd rfl q⟩
    have ref1 : bit G (pix a b) ≠ d → ∀ post : Int32 → Int32 → Prop, post 1 (nI (G ^^^ 2 ^ pix a b)) → wp_X7_edge (nI a) (nI b) (nI d) (nI n) (nI G) post := fun e post hp => by
      refine y_pair7 h1 hn ha hb hab (s_has (by omega) (by omega) (by omega) ?_)
      have := bit_lt G (pix a b)
      rw [hh]
      refine c_eq (by omega) (by omega) (fun q => absurd q e) (fun _ => s_pairOf (by omega) (by omega) ?_)
      rw [nb_one _ (by omega), nx_xor]
      exact hp
    have fin : ∀ z : Nat, z < 32768 → (∀ q, q < 15 → bit z q = if q = pix a b then d else bit G q) → b_X6_edge_43 (nI n) D (nI z) (nI G) := fun z hz hb2 => by
      by_cases e : bit G (pix a b) = d
      · have : z = G := ext15 hz hGl (fun q hq => by
          rw [hb2 q hq]
          by_cases c : q = pix a b
          · rw [if_pos c, c, e]
          · rw [if_neg c])
        rw [this]
        exact ⟨fun _ => h 0 G hG (ref0 e), fun q => absurd rfl q⟩
      · have b2 := bit_lt G (pix a b)
        have : z = G ^^^ 2 ^ pix a b := ext15 hz xl (fun q hq => by
          rw [hb2 q hq, bit_xp]
          by_cases c : q = pix a b
          · rw [if_pos c, if_pos c, c]; omega
          · rw [if_neg c, if_neg c])
        refine c_eq (by omega) (by omega) (fun q => ?_) (fun _ => ?_)
        · have z1 := hb2 (pix a b) p15
          rw [if_pos rfl, q] at z1
          exact absurd z1 e
        · have z2 := h 1 (G ^^^ 2 ^ pix a b) xg (ref1 e)
          rw [← this] at z2
          exact z2
    refine y_pair6 hn ha hb hab (yes1 (s_indexOf (by omega) (by omega) ?_))
    rw [nb_one _ (by omega), nb_clr (by omega), nx_or]
    refine c_eq (b := 0) (by omega) (by omega) (fun q => fin _ cl (fun r hr => ?_)) (fun q => fin _ ol (fun r hr => ?_))
    · rw [bit_clr p15 hr, q]
    · rw [bo, show d = 1 by omega]
  · have ref : ∀ post : Int32 → Int32 → Prop, post (-1) (nI G) → wp_X7_edge x y (nI d) (nI n) (nI G) post := fun post hp => n_pair7 h1 hn g hp
    exact n_pair6 h1 hn g (no0 (h (-1) G hG ref))
theorem o_label {V W : Prop} {n : Nat} {x y sl : Int32} {f_lb f_yl : Nat → Int32} {C : (Nat → Int32) → Int32 → (Nat → Int32) → Prop} (hV : V) (hW : W) (h1 : 1 ≤ n) (hn : n ≤ 6) (he : ∀ a, a < 6 → f_lb a = f_yl a) (h0 : C f_lb sl f_yl)
    (h : ∀ f f', (∀ a, a < 6 → f a = f' a) → C f (nI (smk f' 15)) f') :
    wp_X6_label x y (nI n) f_lb sl (fun r a1 a2 => V ∧ W ∧ wp_X7_label x y (nI n) f_yl (fun r' b1 => (r = r' → C a1 a2 b1) ∧ (¬ r = r' → False))) := by
  rcases kd x 0 (n - 1) (by omega) with ⟨a, _, ha, rfl⟩ | o
  · refine s_isNode6 hn (by omega) (yes1 ?_)
    rcases kd y 0 2 (by omega) with ⟨l, _, hl, rfl⟩ | o
    · refine c_lt (b := 0) (by omega) (by omega) (fun q => by omega) (fun _ => c_lt (b := 3) (by omega) (by omega) (fun _ => ⟨vp_in_nI (by omega) (by omega), vp_in_nI (by omega) (by omega), s_ofSameLabel ⟨hV, hW, s_isNode7 h1 hn (by omega) (yes1 ?_)⟩⟩) (fun q => by omega))
      rw [nI_l (by omega)]
      refine s_in (l := 0) (h := 2) (by omega) (by omega) hl (by omega) (yes1 ⟨vp_in_nI (by omega) (by omega), vp_in_nI (by omega) (by omega), ?_⟩)
      rw [nI_clamp (by omega), he a (by omega)]
      have e : ∀ b, b < 6 → upd f_lb a (nI l) b = upd f_yl a (nI l) b := fun b hb => by
        by_cases c : b = a
        · subst c; rw [pk_us, pk_us]
        · rw [pk_un c, pk_un c]; exact he b hb
      rw [smk_ext e]
      exact sm1 (h _ _ e)
    · have ref : V ∧ W ∧ wp_X7_label (nI a) y (nI n) f_yl (fun r' b1 => ((-1 : Int32) = r' → C f_lb sl b1) ∧ (¬ (-1 : Int32) = r' → False)) := ⟨hV, hW, s_isNode7 h1 hn (by omega) (yes1 (r_no (l := 0) (h := 2) (by omega) (by omega) o (no0 (sm1 h0))))⟩
      refine ⟨fun _ => ref, fun c => ⟨fun c2 => ?_, fun _ => ref⟩⟩
      rw [show (0 : Int32) = nI 0 from rfl, x_lt (by omega)] at c
      rw [show (3 : Int32) = nI 3 from rfl, x_lt (by omega)] at c2
      unfold out at o
      omega
  · exact n_node6 h1 hn o (no0 ⟨hV, hW, n_node7 h1 hn o (no0 (sm1 h0))⟩)
theorem o_chance {V W : Prop} {x y wu wv mU mV : Int32} {C : Int32 → Int32 → Int32 → Int32 → Prop} (hV : V) (hW : W) (h0 : C wu wv mU mV) (h : ∀ u v, u ≤ v → 1 ≤ v → v ≤ 10 → C (nI u) (nI v) (nI u) (nI v)) :
    wp_X6_chance x y wu wv (fun r a1 a2 => V ∧ W ∧ wp_X7_chance x y mU mV (fun r' b1 b2 => (r = r' → C a1 a2 b1 b2) ∧ (¬ r = r' → False))) := by
  have bad : (∀ post : Int32 → Int32 → Int32 → Prop, post (-1) mU mV → wp_X7_chance x y mU mV post) → V ∧ W ∧ wp_X7_chance x y mU mV (fun r' b1 b2 => ((-1 : Int32) = r' → C wu wv b1 b2) ∧ (¬ (-1 : Int32) = r' → False)) := fun ref => ⟨hV, hW, ref _ (sm1 h0)⟩
  rcases kd y 1 10 (by omega) with ⟨v, h1, h10, rfl⟩ | o
  · rcases kd x 0 v (by omega) with ⟨u, _, huv, rfl⟩ | o
    · refine c_lt (b := 1) (by omega) (by omega) (fun q => by omega) (fun _ => c_lt (a := 10) (by omega) (by omega) (fun q => by omega) (fun _ => c_lt (b := 0) (by omega) (by omega) (fun q => by omega) (fun _ => c_le (by omega) (by omega) (fun _ => ⟨hV, hW, ?_⟩) (fun q => by omega))))
      unfold wp_X7_chance
      rw [nI_l (by omega), nI_l (by omega)]
      exact s_in (l := 1) (h := 10) (by omega) h1 h10 (by omega) (yes1 (s_in (l := 0) (by omega) (by omega) huv (by omega) (yes1 (sm1 (h u v huv h1 h10)))))
    · have ref := bad (fun post hp => by
        unfold wp_X7_chance
        rw [nI_l (n := v) (by omega)]
        exact s_in (l := 1) (h := 10) (by omega) h1 h10 (by omega) (yes1 (r_no (l := 0) (by omega) (by omega) o (no0 hp))))
      refine ⟨fun _ => ref, fun _ => ⟨fun _ => ref, fun _ => ⟨fun _ => ref, fun c => ⟨fun c2 => ?_, fun _ => ref⟩⟩⟩⟩
      rw [show (0 : Int32) = nI 0 from rfl, x_lt (by omega)] at c
      rw [x_le (by omega)] at c2
      unfold out at o
      omega
  · have ref := bad (fun post hp => r_no (l := 1) (h := 10) (by omega) (by omega) o (no0 hp))
    refine ⟨fun _ => ref, fun c => ⟨fun _ => ref, fun c2 => ?_⟩⟩
    rw [show (1 : Int32) = nI 1 from rfl, x_lt (by omega)] at c
    rw [show (10 : Int32) = nI 10 from rfl, lt_x (by omega)] at c2
    unfold out at o
    omega
theorem o_lean {V W : Prop} {x y ws wt mS mT : Int32} {C : Int32 → Int32 → Int32 → Int32 → Prop} (hV : V) (hW : W) (h0 : C ws wt mS mT) (h : ∀ s t, 1 ≤ s → s ≤ 3 → 1 ≤ t → t ≤ 2 → C (nI s) (nI t) (nI s) (nI t)) :
    wp_X6_lean x y ws wt (fun r a1 a2 => V ∧ W ∧ wp_X7_lean x y mS mT (fun r' b1 b2 => (r = r' → C a1 a2 b1 b2) ∧ (¬ r = r' → False))) := by
  have bad : (∀ post : Int32 → Int32 → Int32 → Prop, post (-1) mS mT → wp_X7_lean x y mS mT post) → V ∧ W ∧ wp_X7_lean x y mS mT (fun r' b1 b2 => ((-1 : Int32) = r' → C ws wt b1 b2) ∧ (¬ (-1 : Int32) = r' → False)) := fun ref => ⟨hV, hW, ref _ (sm1 h0)⟩
  rcases kd x 1 3 (by omega) with ⟨s, h1, h3, rfl⟩ | o
  · rcases kd y 1 2 (by omega) with ⟨t, t1, t2, rfl⟩ | o
    · refine c_lt (b := 1) (by omega) (by omega) (fun q => by omega) (fun _ => c_lt (a := 3) (by omega) (by omega) (fun q => by omega) (fun _ => c_lt (b := 1) (by omega) (by omega) (fun q => by omega) (fun _ => c_le (b := 2) (by omega) (by omega) (fun _ => ⟨hV, hW, ?_⟩) (fun q => by omega))))
      unfold wp_X7_lean
      rw [nI_l (by omega), nI_l (by omega)]
      exact s_in (l := 1) (h := 3) (by omega) h1 h3 (by omega) (yes1 (s_in (l := 1) (h := 2) (by omega) t1 t2 (by omega) (yes1 (sm1 (h s t h1 h3 t1 t2)))))
    · have ref := bad (fun post hp => by
        unfold wp_X7_lean
        rw [nI_l (n := s) (by omega)]
        exact s_in (l := 1) (h := 3) (by omega) h1 h3 (by omega) (yes1 (r_no (l := 1) (h := 2) (by omega) (by omega) o (no0 hp))))
      refine ⟨fun _ => ref, fun _ => ⟨fun _ => ref, fun _ => ⟨fun _ => ref, fun c => ⟨fun c2 => ?_, fun _ => ref⟩⟩⟩⟩
      rw [show (1 : Int32) = nI 1 from rfl, x_lt (by omega)] at c
      rw [show (2 : Int32) = nI 2 from rfl, x_le (by omega)] at c2
      unfold out at o
      omega
  · have ref := bad (fun post hp => r_no (l := 1) (h := 3) (by omega) (by omega) o (no0 hp))
    refine ⟨fun _ => ref, fun c => ⟨fun _ => ref, fun c2 => ?_⟩⟩
    rw [show (1 : Int32) = nI 1 from rfl, x_lt (by omega)] at c
    rw [show (3 : Int32) = nI 3 from rfl, lt_x (by omega)] at c2
    unfold out at o
    omega
theorem kg {n : Nat} (hn : n ≤ 6) (x : Int32) : (∃ t, gr n t ∧ x = nI t) ∨ out x 0 (2 ^ (n * (n - 1) / 2) - 1) := by
  have t2 := two_lt hn
  have tp : 0 < 2 ^ (n * (n - 1) / 2) := Nat.pow_pos (by decide)
  rcases kd x 0 (2 ^ (n * (n - 1) / 2) - 1) (by omega) with ⟨t, _, ht, e⟩ | o
  · exact Or.inl ⟨t, by unfold gr; omega, e⟩
  · exact Or.inr o
theorem o_become {V : Prop} {n G : Nat} {x : Int32} {C : Int32 → Int32 → Prop} (hV : V) (hn : n ≤ 6) (h0 : C (nI G) (nI G)) (h : ∀ t, gr n t → C (nI t) (nI t)) :
    wp_X6_become x (nI (2 ^ (n * (n - 1) / 2))) (nI G) (fun r a => V ∧ wp_X7_become x (nI (n * (n - 1) / 2)) (nI G) (fun r' b => (r = r' → C a b) ∧ (¬ r = r' → False))) := by
  have t2 := two_lt hn
  have tp : 0 < 2 ^ (n * (n - 1) / 2) := Nat.pow_pos (by decide)
  rcases kg hn x with ⟨t, ht, rfl⟩ | o
  · exact s_isGraph6 ht t2 (yes1 ⟨hV, s_isNumber7 hn ht (yes1 (sm1 (h t ht)))⟩)
  · exact n_graph6 tp t2 o (no0 ⟨hV, n_number7 hn o (no0 (sm1 h0))⟩)
theorem o_thing {V C : Prop} {n G : Nat} {x : Int32} {f_tw f_tr f_lo f_hi f_st f_yl : Nat → Int32} (hV : V) (hT : TB f_tw f_tr f_lo f_hi f_st) (hn : n ≤ 6) (hG : gr n G) (h : C) :
    wp_X6_thing x (nI n) (nI G) (nI (smk f_yl 15)) f_tw f_tr f_lo f_hi f_st (fun r => V ∧ wp_X7_thing x (nI n) (nI (n * (n - 1) / 2)) (nI G) f_yl (fun r' => (r = r' → C) ∧ (¬ r = r' → False))) := by
  rcases kd x 0 7 (by omega) with ⟨w, _, hw, rfl⟩ | o
  · refine s_isThing6 (by omega) (yes1 (s_measure hT (by omega) hn hG (smk_lt f_yl 15) ⟨hV, ?_⟩))
    unfold wp_X7_thing
    rw [nI_l (by omega)]
    exact s_in (l := 0) (h := 7) (by omega) (by omega) hw (by omega) (yes1 (s_thingOf hn hG (by omega) (sm1 h)))
  · exact n_thing6 o (no0 ⟨hV, r_no (l := 0) (h := 7) (by omega) (by omega) o (no0 (sm1 h))⟩)
theorem o_swaps {V : Prop} {n G k : Nat} {x : Int32} {f_lo f_hi : Nat → Int32} {C : Int32 → Int64 → Int32 → Int64 → Prop} (hV : V) (hlo : ∀ p, p < 15 → f_lo p = nI (lo p)) (hhi : ∀ p, p < 15 → f_hi p = nI (hi p)) (hn : n ≤ 6) (hG : gr n G) (hk : k < 18446744073709551616) (h : ∀ G' k', gr n G' → k' < 18446744073709551616 → C (nI G') (lN k') (nI G') (lN k')) :
    wp_X6_swaps x f_lo f_hi (nI G) (lN k) (fun r a1 a2 => V ∧ wp_X7_swaps x (nI (n * (n - 1) / 2)) (nI G) (lN k) (fun r' b1 b2 => (r = r' → C a1 a2 b1 b2) ∧ (¬ r = r' → False))) := by
  rcases kd x 0 100 (by omega) with ⟨t, _, ht, rfl⟩ | o
  · obtain ⟨w1, w2, w3⟩ := swN_ok hn hG hk t
    exact s_swaps6 hlo hhi hn hG hk ht ⟨hV, s_swaps7 hn hG hk ht (sm1 (h _ _ w2 w3))⟩
  · have ref : V ∧ wp_X7_swaps x (nI (n * (n - 1) / 2)) (nI G) (lN k) (fun r' b1 b2 => ((-1 : Int32) = r' → C (nI G) (lN k) b1 b2) ∧ (¬ (-1 : Int32) = r' → False)) := ⟨hV, r_no (l := 0) (h := 100) (by omega) (by omega) o (no0 (sm1 (h _ _ hG hk)))⟩
    refine ⟨fun _ => ref, fun c => ⟨fun c2 => ?_, fun _ => ref⟩⟩
    rw [show (0 : Int32) = nI 0 from rfl, x_lt (by omega)] at c
    rw [show (100 : Int32) = nI 100 from rfl, x_le (by omega)] at c2
    unfold out at o
    omega
theorem o_alike {V : Prop} {n G : Nat} {x rf rt rk : Int32} {f_im f_yo : Nat → Int32} {C : Int32 → Int32 → Int32 → (Nat → Int32) → (Nat → Int32) → Prop} (hV : V) (hn1 : 1 ≤ n) (hn : n ≤ 6) (hG : gr n G) (h : ∀ a1 a2 a3 a4 b1, C a1 a2 a3 a4 b1) :
    wp_X6_alike x (nI n) (nI (2 ^ (n * (n - 1) / 2))) (nI G) rf rt rk f_im (fun r a1 a2 a3 a4 => V ∧ wp_X7_alike x (nI n) (nI (n * (n - 1) / 2)) (nI G) f_yo (fun r' b1 => (r = r' → C a1 a2 a3 a4 b1) ∧ (¬ r = r' → False))) := by
  have t2 := two_lt hn
  have tp : 0 < 2 ^ (n * (n - 1) / 2) := Nat.pow_pos (by decide)
  rcases kg hn x with ⟨t, ht, rfl⟩ | o
  · exact s_alike6 hn hG ht (fun f' => ⟨hV, s_alike7 hn1 hn hG ht (fun f2 => sm1 (h _ _ _ _ _))⟩)
  · exact n_graph6 tp t2 o (no0 ⟨hV, n_number7 hn o (no0 (sm1 (h _ _ _ _ _)))⟩)
theorem o_kinds {n G : Nat} {rf rt rk : Int32} {f_im f_yo : Nat → Int32} {C : Int32 → Int32 → Int32 → (Nat → Int32) → (Nat → Int32) → Prop} (hn1 : 1 ≤ n) (hn : n ≤ 6) (hG : gr n G) (h : ∀ a1 a2 a3 a4 b1, C a1 a2 a3 a4 b1) :
    wp_X6_kinds (nI n) (nI G) rf rt rk f_im (fun r a1 a2 a3 a4 => wp_X7_kinds (nI n) (nI G) f_yo (fun r' b1 => (r = r' → C a1 a2 a3 a4 b1) ∧ (¬ r = r' → False))) :=
  s_kinds6 hn1 hn hG (fun f' => s_kinds7 hn1 hn hG (fun f2 => sm1 (h _ _ _ _ _)))
def BL (n : Nat) (wf mB : Int32) (f_bs f_yb : Nat → Int32) : Prop := (wf = 0 ∧ mB = 0) ∨ (wf = 1 ∧ ¬ mB = 0 ∧ ∀ a, a < n → f_bs a = f_yb a)
theorem o_blocks {V : Prop} {n G : Nat} {x wg wk ww wl wf mB : Int32} {f_lo f_hi f_ti f_bs f_ro f_he f_yb f_yy : Nat → Int32} {C : Int32 → Int32 → Int32 → Int32 → Int32 → (Nat → Int32) → (Nat → Int32) → (Nat → Int32) → (Nat → Int32) → Int32 → (Nat → Int32) → (Nat → Int32) → Prop} (hV : V) (hlo : ∀ p, p < 15 → f_lo p = nI (lo p)) (hhi : ∀ p, p < 15 → f_hi p = nI (hi p)) (hn1 : 1 ≤ n) (hn : n ≤ 6) (hG : gr n G) (hB : BL n wf mB f_bs f_yb)
    (h : ∀ a1 a2 a3 a4 a5 a6 a7 a8 a9 b1 b2 b3, BL n a5 b1 a7 b2 → C a1 a2 a3 a4 a5 a6 a7 a8 a9 b1 b2 b3) :
    wp_X6_blocks x (nI n) (nI G) f_lo f_hi wg wk ww wl wf f_ti f_bs f_ro f_he (fun r a1 a2 a3 a4 a5 a6 a7 a8 a9 => V ∧ wp_X7_blocks x (nI n) (nI G) mB f_yb f_yy (fun r' b1 b2 b3 => (r = r' → C a1 a2 a3 a4 a5 a6 a7 a8 a9 b1 b2 b3) ∧ (¬ r = r' → False))) := by
  have hGl := gr_lt hn hG
  rcases kd x 1 n (by omega) with ⟨k, hk, hkn, rfl⟩ | o
  · exact s_blocks6 hk hkn hn hGl hlo hhi (fun wl' ft fb fr fh hfb => ⟨hV, s_blocks7 hk hkn hn hGl (fun fb2 fy hfb2 => sm1 (h _ _ _ _ _ _ _ _ _ _ _ _ (Or.inr ⟨rfl, nI_ne0 (by omega) (by omega), fun a ha => by rw [hfb a ha, hfb2 a ha]⟩)))⟩)
  · have ref : V ∧ wp_X7_blocks x (nI n) (nI G) mB f_yb f_yy (fun r' b1 b2 b3 => ((-1 : Int32) = r' → C wg wk ww wl wf f_ti f_bs f_ro f_he b1 b2 b3) ∧ (¬ (-1 : Int32) = r' → False)) := by
      refine ⟨hV, ?_⟩
      unfold wp_X7_blocks
      rw [nI_l (by omega)]
      exact r_no (l := 1) (by omega) (by omega) o (no0 (sm1 (h _ _ _ _ _ _ _ _ _ _ _ _ hB)))
    refine ⟨fun _ => ref, fun c => ⟨fun c2 => ?_, fun _ => ref⟩⟩
    rw [show (1 : Int32) = nI 1 from rfl, x_lt (by omega)] at c
    rw [x_le (by omega)] at c2
    unfold out at o
    omega
theorem o_block {V C : Prop} {n : Nat} {x wf mB : Int32} {f_bs f_yb : Nat → Int32} (hV : V) (hn1 : 1 ≤ n) (hn : n ≤ 6) (hB : BL n wf mB f_bs f_yb) (h : C) :
    wp_X6_block x (nI n) wf f_bs (fun r => V ∧ wp_X7_block x (nI n) mB f_yb (fun r' => (r = r' → C) ∧ (¬ r = r' → False))) := by
  rcases kd x 0 (n - 1) (by omega) with ⟨a, _, ha, rfl⟩ | o
  · refine s_isNode6 hn (by omega) (yes1 ?_)
    rcases hB with ⟨rfl, rfl⟩ | ⟨rfl, hm, hb⟩
    · exact ⟨rfl, no0 ⟨hV, s_isNode7 hn1 hn (by omega) (yes1 (no0 (sm1 h)))⟩⟩
    · refine ⟨rfl, yes1 ?_⟩
      refine c_lt (b := 0) (by omega) (by omega) (fun q => by omega) (fun _ => c_le (a := 6) (by omega) (by omega) (fun q => by omega) (fun _ => ⟨vp_in_nI (by omega) (by omega), hV, s_isNode7 hn1 hn (by omega) (yes1 ⟨fun q => absurd q hm, fun _ => ⟨vp_in_nI (by omega) (by omega), ?_⟩⟩)⟩))
      rw [nI_clamp (by omega), hb a (by omega)]
      exact sm1 h
  · exact n_node6 hn1 hn o (no0 ⟨hV, n_node7 hn1 hn o (no0 (sm1 h))⟩)
