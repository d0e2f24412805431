/-! both count the same renumberings -/
theorem sm_swap (f : Nat → Nat → Nat) (n m : Nat) : sm (fun i => sm (fun j => f i j) m) n = sm (fun j => sm (fun i => f i j) n) m := by
  induction n with
  | zero => exact (sm_zero (fun i _ => rfl)).symm
  | succ n ih => simp only [sm]; rw [ih, sm_add]
/-- how often v comes -/
def cv (x : Nat → Nat) (v n : Nat) : Nat := sm (fun a => if x a = v then 1 else 0) n
theorem cv_sum {n : Nat} {x : Nat → Nat} (hx : ∀ a, a < n → x a < n) : sm (fun v => cv x v n) n = n := by
  unfold cv
  rw [sm_swap (fun v a => if x a = v then 1 else 0) n n]
  rw [sm_congr (f' := fun _ => 1)]
  · rw [sm_const, Nat.mul_one]
  · intro a ha
    rw [sm_congr (f' := fun v => if v = x a then 1 else 0)]
    · rw [sm_ind, if_pos (hx a ha)]
    · intro v _
      by_cases c : x a = v
      · rw [if_pos c, if_pos c.symm]
      · rw [if_neg c, if_neg (fun z => c z.symm)]
theorem sm_all1 {g : Nat → Nat} : ∀ n, sm g n = n → (∀ i, i < n → g i ≤ 1) → ∀ i, i < n → g i = 1 := by
  intro n
  induction n with
  | zero => intro _ _ i hi; omega
  | succ n ih =>
    intro hs hl i hi
    have b : sm g n ≤ n := by
      have := sm_mono (f := g) (h := fun _ => 1) (n := n) (fun i hi => hl i (by omega))
      rw [sm_const, Nat.mul_one] at this
      exact this
    simp only [sm] at hs
    have := hl n (by omega)
    by_cases c : i = n
    · subst c; omega
    · exact ih (by omega) (fun i hi => hl i (by omega)) i (by omega)
theorem sm_all1' {g : Nat → Nat} : ∀ n, sm g n = n → (∀ i, i < n → 1 ≤ g i) → ∀ i, i < n → g i = 1 := by
  intro n
  induction n with
  | zero => intro _ _ i hi; omega
  | succ n ih =>
    intro hs hl i hi
    have b : n ≤ sm g n := by
      have := sm_mono (f := fun _ => 1) (h := g) (n := n) (fun i hi => hl i (by omega))
      rw [sm_const, Nat.mul_one] at this
      exact this
    simp only [sm] at hs
    have := hl n (by omega)
    by_cases c : i = n
    · subst c; omega
    · exact ih (by omega) (fun i hi => hl i (by omega)) i (by omega)
theorem cv_pos (x : Nat → Nat) (v : Nat) : ∀ n, 1 ≤ cv x v n ↔ ∃ a, a < n ∧ x a = v := by
  intro n
  induction n with
  | zero => exact ⟨fun z => by simp [cv, sm] at z, fun ⟨a, a1, _⟩ => by omega⟩
  | succ n ih =>
    have e : cv x v (n + 1) = cv x v n + (if x n = v then 1 else 0) := rfl
    rw [e]
    constructor
    · intro z
      by_cases c : x n = v
      · exact ⟨n, by omega, c⟩
      · rw [if_neg c] at z
        obtain ⟨a, a1, a2⟩ := ih.mp (by omega)
        exact ⟨a, by omega, a2⟩
    · intro ⟨a, a1, a2⟩
      by_cases c : a = n
      · subst c; rw [if_pos a2]; omega
      · have := ih.mpr ⟨a, by omega, a2⟩; omega
theorem cv_two (x : Nat → Nat) (v : Nat) : ∀ n b a, b < n → a < b → x a = v → x b = v → 2 ≤ cv x v n := by
  intro n
  induction n with
  | zero => intro b a hb; omega
  | succ n ih =>
    intro b a hb ha e1 e2
    have e : cv x v (n + 1) = cv x v n + (if x n = v then 1 else 0) := rfl
    rw [e]
    by_cases c : b = n
    · subst c
      have := (cv_pos x v b).mpr ⟨a, ha, e1⟩
      rw [if_pos e2]; omega
    · have := ih b a (by omega) ha e1 e2; omega
theorem cv_one (x : Nat → Nat) (v : Nat) : ∀ n, (∀ b, b < n → ∀ a, a < b → x a ≠ x b) → cv x v n ≤ 1 := by
  intro n
  induction n with
  | zero => intro _; exact Nat.zero_le _
  | succ n ih =>
    intro h
    have e : cv x v (n + 1) = cv x v n + (if x n = v then 1 else 0) := rfl
    rw [e]
    have i := ih (fun b hb => h b (by omega))
    by_cases c : x n = v
    · have z : ¬ 1 ≤ cv x v n := by
        intro z
        obtain ⟨a, a1, a2⟩ := (cv_pos x v n).mp z
        exact h n (by omega) a a1 (by rw [a2, c])
      rw [if_pos c]; omega
    · rw [if_neg c]; omega
theorem surj_inj {n : Nat} {x : Nat → Nat} (hx : ∀ a, a < n → x a < n) (h : ∀ v, v < n → ∃ a, a < n ∧ x a = v) : ∀ b, b < n → ∀ a, a < b → x a ≠ x b := by
  intro b hb a ha e
  have := sm_all1' n (cv_sum hx) (fun v hv => (cv_pos x v n).mpr (h v hv)) (x b) (hx b hb)
  have := cv_two x (x b) n b a hb ha e rfl
  omega
theorem inj_surj {n : Nat} {x : Nat → Nat} (hx : ∀ a, a < n → x a < n) (h : ∀ b, b < n → ∀ a, a < b → x a ≠ x b) : ∀ v, v < n → ∃ a, a < n ∧ x a = v := by
  intro v hv
  have := sm_all1 n (cv_sum hx) (fun v _ => cv_one x v n h) v hv
  exact (cv_pos x v n).mp (by omega)
theorem pix_inj {a b c d : Nat} (ha : a < 6) (hb : b < 6) (hc : c < 6) (hd : d < 6) (h1 : a ≠ b) (h2 : c ≠ d) (h : pix a b = pix c d) : (a = c ∧ b = d) ∨ (a = d ∧ b = c) := by
  have p := (pix_lohi a ha b hb h1).2.2
  have q := (pix_lohi c hc d hd h2).2.2
  rw [h] at p
  omega
theorem ext_all {g h : Nat} (e : ∀ q, bit g q = 1 ↔ bit h q = 1) : g = h := by
  apply Nat.eq_of_testBit_eq
  intro i
  have := e i
  rw [bit1, bit1] at this
  cases a : g.testBit i <;> cases b : h.testBit i <;> simp [a, b] at this ⊢
theorem Qr_Qc {n F t : Nat} {x : Nat → Nat} (hn : n ≤ 6) (ht : gr n t) (hx : ∀ a, a < n → x a < n) : Qr n F t x = Qc n F t x := by
  have key : (sn x n = 2 ^ n - 1 ∧ mo F x n = t) ↔ vq F t x n := by
    constructor
    · intro ⟨h1, h2⟩ b hb a ha
      have sj := (sn_full hn hx).mp h1
      have ij := surj_inj hx sj
      refine ⟨ij b hb a ha, ?_⟩
      have b1 := bit_01 F (pix a b)
      have b2 := bit_01 t (pix (x a) (x b))
      rcases b1 with e | e
      · rcases b2 with e2 | e2
        · rw [e, e2]
        · exfalso
          rw [← h2] at e2
          obtain ⟨b', hb', a', ha', hh, hp⟩ := (mo_bit F x _ n).mp e2
          have xa := hx a (by omega); have xb := hx b hb; have xa' := hx a' (by omega); have xb' := hx b' hb'
          rw [hs_ne (by omega)] at hh
          have inj : ∀ i j, i < n → j < n → x i = x j → i = j := by
            intro i j hi hj eij
            rcases Nat.lt_trichotomy i j with c | c | c
            · exact absurd eij (ij j hj i c)
            · exact c
            · exact absurd eij.symm (ij i hi j c)
          rcases pix_inj (by omega) (by omega) (by omega) (by omega) (ij b' hb' a' ha') (ij b hb a ha) hp with ⟨q1, q2⟩ | ⟨q1, q2⟩
          · have r1 := inj a' a (by omega) (by omega) q1
            have r2 := inj b' b hb' hb q2
            subst r1; subst r2
            omega
          · have r1 := inj a' b (by omega) hb q1
            have r2 := inj b' a hb' (by omega) q2
            omega
      · have : bit (mo F x n) (pix (x a) (x b)) = 1 := (mo_bit F x _ n).mpr ⟨b, hb, a, ha, by rw [hs_ne (by omega)]; exact e, rfl⟩
        rw [h2] at this
        rw [e, this]
    · intro v
      have ij : ∀ b, b < n → ∀ a, a < b → x a ≠ x b := fun b hb a ha => (v b hb a ha).1
      have sj := inj_surj hx ij
      refine ⟨(sn_full hn hx).mpr sj, ext_all (fun q => ?_)⟩
      rw [mo_bit]
      constructor
      · intro ⟨b, hb, a, ha, hh, hp⟩
        rw [hs_ne (by omega)] at hh
        have := (v b hb a ha).2
        rw [hp, hh] at this
        exact this.symm
      · intro e
        obtain ⟨q1, q2⟩ := gr_hi hn ht q e
        obtain ⟨l1, l2, l3⟩ := lohi q q2
        obtain ⟨a, ha, ea⟩ := sj (lo q) (by omega)
        obtain ⟨b, hb, eb⟩ := sj (hi q) q1
        rcases Nat.lt_trichotomy a b with c | c | c
        · refine ⟨b, hb, a, c, ?_, by rw [ea, eb]; exact l3⟩
          have := (v b hb a c).2
          rw [ea, eb, l3, e] at this
          rw [hs_ne (by omega)]; exact this
        · subst c; omega
        · have sy := (pix_lohi (lo q) (by omega) (hi q) l2 (by omega)).2.1
          rw [l3] at sy
          refine ⟨a, ha, b, c, ?_, by rw [ea, eb]; exact sy.symm⟩
          have := (v a ha b c).2
          rw [ea, eb, ← sy, e] at this
          rw [hs_ne (by omega)]; exact this
  unfold Qr Qc
  by_cases c : vq F t x n
  · rw [if_pos c, if_pos (key.mpr c)]
  · rw [if_neg c, if_neg (fun z => c (key.mp z))]
/-- the renumberings of F that make t -/
def nw (n F t : Nat) : Nat := TT n (Qc n F t) n 0 (fun _ => 0)
theorem nw_eq {n F t : Nat} (hn1 : 1 ≤ n) (hn : n ≤ 6) (ht : gr n t) : sm (fun c => Qr n F t (dgt n c)) (n ^ n) = nw n F t := by
  unfold nw
  rw [TT_sum (fun x y h => Qc_ext x y h) n 0 _ (by omega)]
  refine sm_congr (fun c _ => ?_)
  rw [Qr_Qc (x := dgt n c) hn ht (fun a _ => Nat.mod_lt _ (by omega))]
  refine Qc_ext _ _ (fun a _ => ?_)
  rw [if_neg (by omega)]
  rfl
theorem nw_le {n F t : Nat} (hn : n ≤ 6) : nw n F t ≤ 46656 := Nat.le_trans (TT_le (Qc_le n F t) n 0 _) (nn_le n (by omega))
theorem sm_term {f : Nat → Nat} {d n : Nat} (h : d < n) : f d ≤ sm f n := by
  have : sm f (d + 1) ≤ sm f n := sm_incl (by omega)
  simp only [sm] at this
  omega
theorem TT_ge {n : Nat} {Q : (Nat → Nat) → Nat} (hQ : ∀ x y, (∀ a, a < n → x a = y a) → Q x = Q y) {y : Nat → Nat} (hy : ∀ a, a < n → y a < n) : ∀ m i x, i + m = n → (∀ a, a < i → x a = y a) → Q y ≤ TT n Q m i x := by
  intro m
  induction m with
  | zero =>
    intro i x hi hx
    simp only [TT]
    rw [hQ x y (fun a ha => hx a (by omega))]
    exact Nat.le_refl _
  | succ m ih =>
    intro i x hi hx
    simp only [TT]
    refine Nat.le_trans (ih (i + 1) (un x i (y i)) (by omega) (fun a ha => ?_)) (sm_term (f := fun d => TT n Q m (i + 1) (un x i d)) (hy i (by omega)))
    by_cases c : a = i
    · subst c; exact un_s _ _ _
    · rw [un_n c]; exact hx a (by omega)
theorem nw_pos {n G : Nat} : 1 ≤ nw n G G := by
  have := TT_ge (n := n) (Q := Qc n G G) (fun x y h => Qc_ext x y h) (y := fun a => a) (fun a ha => ha) n 0 (fun _ => 0) (by omega) (fun a ha => by omega)
  have q : Qc n G G (fun a => a) = 1 := if_pos (fun b _ a ha => ⟨(show a ≠ b by omega), rfl⟩)
  rw [q] at this
  exact this
/-! alike and kinds, of both sides -/
theorem s_isGraph6 {t N : Nat} {post : Int32 → Prop} (ht : t < N) (hN : N ≤ 32768) (h : post 1) : wp_X6_isGraph (nI t) (nI N) post := c_lt (b := 0) (by omega) (by omega) (fun q => by omega) (fun _ => c_le (by omega) (by omega) (fun q => by omega) (fun _ => h))
theorem s_isNumber7 {n t : Nat} {post : Int32 → Prop} (hn : n ≤ 6) (ht : gr n t) (h : post 1) : wp_X7_isNumber (nI t) (nI (n * (n - 1) / 2)) post := by
  unfold wp_X7_isNumber
  unfold gr at ht
  have t2 := two_lt hn
  rw [two_np hn]
  obtain ⟨m, hm⟩ : ∃ m, 2 ^ (n * (n - 1) / 2) = m + 1 := ⟨2 ^ (n * (n - 1) / 2) - 1, by omega⟩
  rw [hm] at ht t2 ⊢
  rw [nI_l (by omega), nI_pred, nI_l (by omega)]
  exact s_in (l := 0) (h := m) (by omega) (by omega) (by omega) (by omega) ⟨rfl, h⟩
theorem s_alike6 {n G t : Nat} {rf rt rk : Int32} {f_im : Nat → Int32} {post : Int32 → Int32 → Int32 → Int32 → (Nat → Int32) → Prop} (hn : n ≤ 6) (hG : gr n G) (ht : gr n t) (h : ∀ f', post (nI (if nw n G t = 0 then 0 else 1)) (nI G) (nI t) (nI n) f') : wp_X6_alike (nI t) (nI n) (nI (2 ^ (n * (n - 1) / 2))) (nI G) rf rt rk f_im post := by
  have nl := nw_le (n := n) (F := G) (t := t) hn
  refine s_isGraph6 ht (two_lt hn) (yes1 (s_count hn (gr_lt hn hG) (gr_lt hn ht) (fun f' => c_le (b := 0) (by unfold nw at nl; omega) (by omega) (fun q => ?_) (fun q => ?_))))
  · have := h f'; rw [if_pos (by unfold nw; omega)] at this; exact this
  · have := h f'; rw [if_neg (by unfold nw; omega)] at this; exact this
theorem s_alike7 {n G t : Nat} {f_yo : Nat → Int32} {post : Int32 → (Nat → Int32) → Prop} (hn1 : 1 ≤ n) (hn : n ≤ 6) (hG : gr n G) (ht : gr n t) (h : ∀ f', post (nI (if nw n G t = 0 then 0 else 1)) f') : wp_X7_alike (nI t) (nI n) (nI (n * (n - 1) / 2)) (nI G) f_yo post := by
  have nl := nw_le (n := n) (F := G) (t := t) hn
  refine s_isNumber7 hn ht (yes1 (s_waysTo hn1 hn (gr_lt hn hG) (gr_lt hn ht) (fun f' => ?_)))
  rw [nw_eq hn1 hn ht]
  refine c_le (b := 0) (by omega) (by omega) (fun q => ?_) (fun q => ?_)
  · have := h f'; rw [if_pos (by omega)] at this; exact this
  · have := h f'; rw [if_neg (by omega)] at this; exact this
def ff : Nat → Nat
  | 0 => 1
  | j + 1 => ff j * (j + 1)
theorem s_all {n : Nat} {post : Int32 → Prop} (hn1 : 1 ≤ n) (hn : n ≤ 6) (h : post (nI (ff n))) : wp_X2_all (nI n) post := by
  refine lp0 (fun k j => b_X2_all_4 post k (nI n) (nI (ff (j - 1))) (nI j)) 2 (n + 1) (by omega) (fun k => c_lt (by omega) (by omega) (fun _ => ?_) (fun q => by omega)) (fun k j h2 hj ih => c_lt (by omega) (by omega) (fun q => by omega) (fun _ => ?_))
  · rw [Nat.add_sub_cancel]; exact h
  · obtain ⟨i, rfl⟩ : ∃ i, j = i + 1 := ⟨j - 1, by omega⟩
    rw [pk_mul, nI_1]
    rw [Nat.add_sub_cancel] at ih ⊢
    exact ih
theorem nI_ne0q {k : Nat} (h1 : 1 ≤ k) (h2 : k < 2 ^ 31) : ¬ nI k = 0 := fun q => by
  have := (nI_eq (a := k) (b := 0) h2 (by omega)).mp q
  omega
theorem s_kinds6 {n G : Nat} {rf rt rk : Int32} {f_im : Nat → Int32} {post : Int32 → Int32 → Int32 → Int32 → (Nat → Int32) → Prop} (hn1 : 1 ≤ n) (hn : n ≤ 6) (hG : gr n G) (h : ∀ f', post (nI (ff n) / nI (nw n G G)) (nI G) (nI G) (nI n) f') : wp_X6_kinds (nI n) (nI G) rf rt rk f_im post := by
  have nl := nw_le (n := n) (F := G) (t := G) hn
  have np := nw_pos (n := n) (G := G)
  refine s_count hn (gr_lt hn hG) (gr_lt hn hG) (fun f' => ?_)
  rw [show TT n (Qc n G G) n 0 (fun _ => 0) = nw n G G from rfl]
  exact c_le (a := 1) (by omega) (by omega) (fun _ => s_all hn1 hn ⟨nI_ne0q np (by omega), h f'⟩) (fun q => by omega)
theorem s_kinds7 {n G : Nat} {f_yo : Nat → Int32} {post : Int32 → (Nat → Int32) → Prop} (hn1 : 1 ≤ n) (hn : n ≤ 6) (hG : gr n G) (h : ∀ f', post (nI (ff n) / nI (nw n G G)) f') : wp_X7_kinds (nI n) (nI G) f_yo post := by
  have nl := nw_le (n := n) (F := G) (t := G) hn
  have np := nw_pos (n := n) (G := G)
  refine lp0 (fun k j => b_X7_kinds_4 (nI n) (nI G) post k (nI (ff (j - 1))) (nI j) f_yo) 2 (n + 1) (by omega) (fun k => c_lt (by omega) (by omega) (fun _ => ?_) (fun q => by omega)) (fun k j h2 hj ih => c_lt (by omega) (by omega) (fun q => by omega) (fun _ => ?_))
  · rw [Nat.add_sub_cancel]
    refine s_waysTo hn1 hn (gr_lt hn hG) (gr_lt hn hG) (fun f' => ?_)
    rw [nw_eq hn1 hn hG]
    exact ⟨nI_ne0q np (by omega), h f'⟩
  · obtain ⟨i, rfl⟩ : ∃ i, j = i + 1 := ⟨j - 1, by omega⟩
    rw [pk_mul, nI_1]
    rw [Nat.add_sub_cancel] at ih ⊢
    exact ih
