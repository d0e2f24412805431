/-! renumberings: all digits -/
def un (x : Nat → Nat) (i d : Nat) : Nat → Nat := fun a => if a = i then d else x a
theorem un_s (x : Nat → Nat) (i d : Nat) : un x i d i = d := if_pos rfl
theorem un_n {x : Nat → Nat} {i d a : Nat} (h : a ≠ i) : un x i d a = x a := if_neg h
/-- a sum over all rows of digits that begin as x does -/
def TT (n : Nat) (Q : (Nat → Nat) → Nat) : Nat → Nat → (Nat → Nat) → Nat
  | 0, _, x => Q x
  | m + 1, i, x => sm (fun d => TT n Q m (i + 1) (un x i d)) n
theorem sm_append (f : Nat → Nat) (k m : Nat) : sm f (k + m) = sm f k + sm (fun d => f (k + d)) m := by
  induction m with
  | zero => rfl
  | succ m ih => rw [← Nat.add_assoc]; simp only [sm]; rw [ih, Nat.add_assoc]
theorem sm_mulN (f : Nat → Nat) (n N : Nat) : sm f (n * N) = sm (fun d => sm (fun c => f (d + n * c)) N) n := by
  induction N with
  | zero => rw [Nat.mul_zero]; exact (sm_zero (fun i _ => rfl)).symm
  | succ N ih =>
    rw [Nat.mul_succ, sm_append, ih]
    simp only [sm]
    rw [← sm_add]
    congr 1
    exact sm_congr (fun i _ => by rw [Nat.add_comm])
theorem TT_sum {n : Nat} {Q : (Nat → Nat) → Nat} (hQ : ∀ x y, (∀ a, a < n → x a = y a) → Q x = Q y) : ∀ m i x, i + m = n → TT n Q m i x = sm (fun c => Q (fun a => if a < i then x a else c / n ^ (a - i) % n)) (n ^ m) := by
  intro m
  induction m with
  | zero =>
    intro i x hi
    simp only [TT, Nat.pow_zero, sm, Nat.zero_add]
    exact hQ _ _ (fun a ha => by rw [if_pos (by omega)])
  | succ m ih =>
    intro i x hi
    rw [Nat.pow_succ, Nat.mul_comm, sm_mulN]
    simp only [TT]
    refine sm_congr (fun d hd => ?_)
    rw [ih (i + 1) (un x i d) (by omega)]
    refine sm_congr (fun c _ => hQ _ _ (fun a ha => ?_))
    have n0 : 0 < n := by omega
    by_cases c1 : a < i
    · rw [if_pos (by omega), if_pos c1, un_n (by omega)]
    · by_cases c2 : a = i
      · subst c2
        rw [if_pos (by omega), if_neg c1, un_s, Nat.sub_self, Nat.pow_zero, Nat.div_one, Nat.add_mul_mod_self_left, Nat.mod_eq_of_lt hd]
      · rw [if_neg (by omega), if_neg c1]
        obtain ⟨k, hk⟩ : ∃ k, a = i + 1 + k := ⟨a - (i + 1), by omega⟩
        rw [hk, show i + 1 + k - (i + 1) = k by omega, show i + 1 + k - i = k + 1 by omega, Nat.pow_succ, Nat.mul_comm (n ^ k), ← Nat.div_div_eq_div_mul, Nat.add_mul_div_left _ _ n0, Nat.div_eq_of_lt hd, Nat.zero_add]
theorem TT_le {n : Nat} {Q : (Nat → Nat) → Nat} (hQ : ∀ x, Q x ≤ 1) : ∀ m i x, TT n Q m i x ≤ n ^ m := by
  intro m
  induction m with
  | zero => intro i x; exact hQ x
  | succ m ih =>
    intro i x
    simp only [TT]
    have := sm_le (n := n) (m := n ^ m) (f := fun d => TT n Q m (i + 1) (un x i d)) (fun d => ih (i + 1) (un x i d))
    rw [Nat.pow_succ, Nat.mul_comm]
    exact this
/-- the first i images are good -/
abbrev vq (F t : Nat) (x : Nat → Nat) (i : Nat) : Prop := ∀ b, b < i → ∀ a, a < b → x a ≠ x b ∧ bit F (pix a b) = bit t (pix (x a) (x b))
def Qc (n F t : Nat) (x : Nat → Nat) : Nat := if vq F t x n then 1 else 0
theorem vq_ext {F t i : Nat} {x y : Nat → Nat} (h : ∀ a, a < i → x a = y a) : vq F t x i ↔ vq F t y i := by
  constructor
  · intro v b hb a ha
    rw [← h b hb, ← h a (by omega)]
    exact v b hb a ha
  · intro v b hb a ha
    rw [h b hb, h a (by omega)]
    exact v b hb a ha
theorem Qc_ext {n F t : Nat} (x y : Nat → Nat) (h : ∀ a, a < n → x a = y a) : Qc n F t x = Qc n F t y := by
  unfold Qc
  by_cases c : vq F t x n
  · rw [if_pos c, if_pos ((vq_ext h).mp c)]
  · rw [if_neg c, if_neg (fun z => c ((vq_ext h).mpr z))]
theorem Qc_le (n F t : Nat) (x : Nat → Nat) : Qc n F t x ≤ 1 := by unfold Qc; split <;> omega
theorem TT_bad {n F t : Nat} : ∀ m i x, i + m = n → ¬ vq F t x i → TT n (Qc n F t) m i x = 0 := by
  intro m
  induction m with
  | zero =>
    intro i x hi hv
    obtain rfl : i = n := by omega
    exact if_neg hv
  | succ m ih =>
    intro i x hi hv
    simp only [TT]
    refine sm_zero (fun d _ => ih (i + 1) _ (by omega) (fun z => hv ?_))
    have z2 : vq F t (un x i d) i := fun b hb a ha => z b (by omega) a ha
    exact (vq_ext (fun a ha => un_n (by omega))).mp z2
theorem vq_step {F t i d : Nat} {x : Nat → Nat} (hv : vq F t x i) : vq F t (un x i d) (i + 1) ↔ ∀ a, a < i → x a ≠ d ∧ bit F (pix a i) = bit t (pix (x a) d) := by
  constructor
  · intro v a ha
    have := v i (by omega) a ha
    rw [un_s, un_n (by omega)] at this
    exact this
  · intro v b hb a ha
    by_cases c : b = i
    · subst c
      rw [un_s, un_n (by omega)]
      exact v a ha
    · rw [un_n (by omega), un_n (by omega)]
      exact hv b (by omega) a ha
theorem pix31 : ∀ a, a < 6 → ∀ b, b < 6 → pix a b < 16 := by decide +kernel
theorem s_fits {F t i v : Nat} {x : Nat → Nat} {f_im : Nat → Int32} {post : Int32 → Prop} (hF : F < 32768) (ht : t < 32768) (hi : i < 6) (hv : v < 6) (hx : ∀ a, a < i → f_im a = nI (x a) ∧ x a < 6) (h : post (nI (if ∀ a, a < i → bit F (pix a i) = bit t (pix (x a) v) then 1 else 0))) : wp_X2_fits (nI i) (nI v) (nI F) (nI t) f_im post := by
  have H : ∀ k a, a + k = i → (∀ w, w < a → bit F (pix w i) = bit t (pix (x w) v)) → b_X2_fits_2 (nI F) (nI t) f_im post (k + 1) (nI i) (nI v) (nI a) := by
    intro k
    induction k with
    | zero =>
      intro a ha hI
      refine c_le (by omega) (by omega) (fun _ => ?_) (fun q => by omega)
      rw [if_pos (fun w hw => hI w (by omega))] at h
      exact h
    | succ k ih =>
      intro a ha hI
      obtain ⟨x1, x2⟩ := hx a (by omega)
      refine c_le (by omega) (by omega) (fun q => by omega) (fun _ => s_indexOf (by omega) (by omega) (fun z hz => ⟨vp_in_nI (by omega) (by omega), ?_⟩))
      have p1 := pix31 a (by omega) i hi
      have p2 := pix31 (x a) x2 v hv
      rw [nI_clamp (by omega), x1]
      refine s_indexOf x2 hv (fun z' hz' => ?_)
      rw [nb_bit (by omega) (by omega)] at hz hz'
      subst hz; subst hz'
      have b1 := bit_01 F (pix a i)
      have b2 := bit_01 t (pix (x a) v)
      rw [nI_1]
      refine c_eq (by omega) (by omega) (fun e => ih (a + 1) (by omega) (fun w hw => ?_)) (fun e => ?_)
      · by_cases c : w = a
        · subst c; exact e
        · exact hI w (by omega)
      · rw [if_neg (fun z => e (z a (by omega)))] at h
        exact h
  exact ⟨i + 1, H i 0 (by omega) (fun w hw => by omega)⟩
theorem s_countFrom {n F t : Nat} (hn : n ≤ 6) (hF : F < 32768) (ht : t < 32768) : ∀ (m d i tk : Nat) (x : Nat → Nat) (f_im : Nat → Int32) (post : Int32 → (Nat → Int32) → Prop), i + m = n → m < d → tk < 64 → (∀ a, a < i → f_im a = nI (x a) ∧ x a < n) → (∀ v, v < 6 → (bit tk v = 1 ↔ ∃ a, a < i ∧ x a = v)) → vq F t x i → (∀ f', (∀ a, a < i → f' a = f_im a) → post (nI (TT n (Qc n F t) m i x)) f') → wp_X2_countFrom d (nI i) (nI tk) (nI F) (nI t) (nI n) f_im post := by
  intro m
  induction m with
  | zero =>
    intro d i tk x f_im post hi hd htk hx hT hv h
    obtain ⟨d', rfl⟩ : ∃ d', d = d' + 1 := ⟨d - 1, by omega⟩
    refine c_lt (by omega) (by omega) (fun q => by omega) (fun _ => ?_)
    have := h f_im (fun a _ => rfl)
    obtain rfl : i = n := by omega
    simp only [TT, Qc] at this
    rw [if_pos hv] at this
    exact this
  | succ m ih =>
    intro d i tk x f_im post hi hd htk hx hT hv h
    obtain ⟨d', rfl⟩ : ∃ d', d = d' + 1 := ⟨d - 1, by omega⟩
    refine c_lt (by omega) (by omega) (fun _ => ?_) (fun q => by omega)
    refine pk_loop (σ := Nat → Int32) (fun k v f => b_X2_countFrom_15 (nI F) (nI t) (nI n) (wp_X2_countFrom d') post k (nI i) (nI tk) (nI (sm (fun d => TT n (Qc n F t) m (i + 1) (un x i d)) v)) (nI v) f) (fun _ f => ∀ a, a < i → f a = f_im a) n 0 f_im (Nat.zero_le _) (fun a _ => rfl) ?_ ?_
    · intro k f hf
      exact c_le (by omega) (by omega) (fun _ => h f hf) (fun q => by omega)
    · intro k v f hvn hf ihl
      have skip : ∀ f' : Nat → Int32, (∀ a, a < i → f' a = f_im a) → ¬ vq F t (un x i v) (i + 1) → b_X2_countFrom_67 (nI F) (nI t) (nI n) (wp_X2_countFrom d') post (b_X2_countFrom_15 (nI F) (nI t) (nI n) (wp_X2_countFrom d') post k) (nI i) (nI tk) (nI (sm (fun d => TT n (Qc n F t) m (i + 1) (un x i d)) v)) (nI v) f' := by
        intro f' hf' c
        have z := TT_bad (n := n) m (i + 1) (un x i v) (by omega) c
        have := ihl f' hf'
        simp only [sm] at this
        rw [z, Nat.add_zero] at this
        show b_X2_countFrom_15 _ _ _ _ _ _ _ _ _ (nI v + 1) _
        rw [nI_1]
        exact this
      refine c_le (by omega) (by omega) (fun q => by omega) (fun _ => ?_)
      rw [nb_bit (by omega) (by omega)]
      refine c01 (bit_01 tk v) (fun e0 => s_fits hF ht (by omega) (by omega) (x := x) (fun a ha => by rw [hf a ha]; have := hx a ha; exact ⟨this.1, by omega⟩) ?_) (fun e1 => ?_)
      · by_cases c : ∀ a, a < i → bit F (pix a i) = bit t (pix (x a) v)
        · rw [if_pos c]
          refine c01 (v := 1) (Or.inr rfl) (fun e => by omega) (fun _ => ⟨vp_in_nI (by omega) (by omega), ?_⟩)
          rw [nI_clamp (by omega), nb_one _ (by omega), nx_or, nI_1]
          have fresh : ∀ a, a < i → x a ≠ v := by
            intro a ha e
            have := (hT v (by omega)).mpr ⟨a, ha, e⟩
            omega
          refine ih d' (i + 1) _ (un x i v) _ _ (by omega) (by omega) (or_lt64 htk (pow_lt64 v (by omega))) (fun a ha => ?_) (fun w hw => ?_) ((vq_step hv).mpr (fun a ha => ⟨fresh a ha, c a ha⟩)) (fun f' hf' => ?_)
          · by_cases ca : a = i
            · subst ca; rw [pk_us, un_s]; exact ⟨rfl, hvn⟩
            · rw [pk_un ca, un_n ca, hf a (by omega)]; exact hx a (by omega)
          · rw [bit_or, bit_pow]
            have := hT w hw
            constructor
            · intro z
              by_cases cw : w = v
              · subst cw; exact ⟨i, by omega, un_s _ _ _⟩
              · rw [if_neg cw] at z
                have z2 : bit tk w = 1 := by
                  apply Classical.byContradiction
                  intro zz; rw [if_neg (by omega)] at z; omega
                obtain ⟨a, a1, a2⟩ := this.mp z2
                exact ⟨a, by omega, by rw [un_n (by omega)]; exact a2⟩
            · intro ⟨a, a1, a2⟩
              by_cases ca : a = i
              · subst ca; rw [un_s] at a2; subst a2; rw [if_pos (Or.inr (if_pos rfl))]
              · rw [un_n ca] at a2
                rw [if_pos (Or.inl (this.mpr ⟨a, by omega, a2⟩))]
          · show b_X2_countFrom_15 _ _ _ _ _ _ _ _ _ (nI v + 1) _
            rw [nI_1, nI_add]
            refine ihl f' (fun a ha => ?_)
            rw [hf' a (by omega), pk_un (by omega)]
            exact hf a ha
        · rw [if_neg c]
          exact c01 (v := 0) (Or.inl rfl) (fun _ => skip f hf (fun z => c (fun a ha => ((vq_step hv).mp z a ha).2))) (fun e => by omega)
      · obtain ⟨a, a1, a2⟩ := (hT v (by omega)).mp e1
        exact skip f hf (fun z => ((vq_step hv).mp z a a1).1 a2)
theorem s_count {n F t : Nat} {rf rt rk : Int32} {f_im : Nat → Int32} {post : Int32 → Int32 → Int32 → Int32 → (Nat → Int32) → Prop} (hn : n ≤ 6) (hF : F < 32768) (ht : t < 32768) (h : ∀ f', post (nI (TT n (Qc n F t) n 0 (fun _ => 0))) (nI F) (nI t) (nI n) f') : wp_X2_count (nI F) (nI t) (nI n) rf rt rk f_im post := by
  unfold wp_X2_count
  rw [min6 hn]
  exact s_countFrom hn hF ht n 7 0 0 (fun _ => 0) f_im _ (by omega) (by omega) (by omega) (fun a ha => by omega) (fun v hv => ⟨fun z => by simp [bit] at z, fun ⟨a, a1, _⟩ => by omega⟩) (fun b hb => by omega) (fun f' _ => h f')
