/-! the class's tables, as its constructors make them -/
def tI (p : Nat) (f_lo f_hi f_st : Nat → Int32) : Prop := (∀ q, q < p → f_lo q = nI (lo q)) ∧ (∀ q, q < p → f_hi q = nI (hi q)) ∧ ∀ v, v < 6 → f_st v = nI (star v % 2 ^ p)
theorem lo_pix : ∀ b, b < 6 → ∀ a, a < b → lo (b * (b - 1) / 2 + a) = a ∧ hi (b * (b - 1) / 2 + a) = b ∧ b * (b - 1) / 2 + a < 15 ∧ pix a b = b * (b - 1) / 2 + a := by decide +kernel
theorem star_step : ∀ b, b < 6 → ∀ a, a < b → ∀ v, v < 6 → star v % 2 ^ (b * (b - 1) / 2 + a + 1) = if v = a ∨ v = b then (star v % 2 ^ (b * (b - 1) / 2 + a)) ||| 2 ^ (b * (b - 1) / 2 + a) else star v % 2 ^ (b * (b - 1) / 2 + a) := by decide +kernel
theorem tri_step : ∀ b, b < 6 → b * (b - 1) / 2 + b = (b + 1) * (b + 1 - 1) / 2 := by decide +kernel
theorem star_full : ∀ v, v < 6 → star v % 2 ^ 15 = star v := by decide +kernel
theorem s_X1_init {post : (Nat → Int32) → (Nat → Int32) → (Nat → Int32) → Prop} (h : ∀ f_lo f_hi f_st, (∀ p, p < 15 → f_lo p = nI (lo p)) → (∀ p, p < 15 → f_hi p = nI (hi p)) → (∀ v, v < 6 → f_st v = nI (star v)) → post f_lo f_hi f_st) : wp_X1_init post := by
  refine pk_loop (σ := (Nat → Int32) × (Nat → Int32) × (Nat → Int32)) (fun n b s => b_X1_init_30 post n (nI b) s.1 s.2.1 s.2.2) (fun b s => tI (b * (b - 1) / 2) s.1 s.2.1 s.2.2) 6 1 (fun _ => 0, fun _ => 0, fun _ => 0) (by omega) ?_ ?_ ?_
  · exact ⟨fun q hq => by omega, fun q hq => by omega, fun v hv => by rw [show 1 * (1 - 1) / 2 = 0 from rfl, Nat.pow_zero, Nat.mod_one]; rfl⟩
  · intro n s hI
    refine c_le (a := 6) (b := 6) (by omega) (by omega) (fun _ => h _ _ _ hI.1 hI.2.1 (fun v hv => ?_)) (fun q => by omega)
    rw [hI.2.2 v hv, star_full v hv]
  · intro n b s hb hI ih
    refine c_le (a := 6) (by omega) (by omega) (fun q => by omega) (fun _ => ?_)
    refine pk_loop (σ := (Nat → Int32) × (Nat → Int32) × (Nat → Int32)) (fun n' a s => b_X1_init_38 post (b_X1_init_30 post n) n' (nI b) (nI a) s.1 s.2.1 s.2.2) (fun a s => tI (b * (b - 1) / 2 + a) s.1 s.2.1 s.2.2) b 0 s (by omega) hI ?_ ?_
    · intro n' s' hI'
      refine c_le (by omega) (by omega) (fun _ => ?_) (fun q => by omega)
      rw [nI_1]
      refine ih s' ?_
      rw [tri_step b hb] at hI'
      exact hI'
    · intro n' a s' ha hI' iha
      obtain ⟨f1, f2, f3, f4⟩ := lo_pix b hb a ha
      refine c_le (by omega) (by omega) (fun q => by omega) (fun _ => s_indexOf (by omega) hb ?_)
      rw [f4]
      refine ⟨vp_in_nI f3 (by omega), vp_in_nI f3 (by omega), vp_in_nI (by omega) (by omega), vp_in_nI (by omega) (by omega), vp_in_nI (by omega) (by omega), vp_in_nI (by omega) (by omega), ?_⟩
      rw [nI_1, nI_clamp (by omega), nI_clamp (by omega), nI_clamp (by omega), nb_one _ (by omega)]
      refine iha (upd s'.1 (b * (b - 1) / 2 + a) (nI a), upd s'.2.1 (b * (b - 1) / 2 + a) (nI b), upd (upd s'.2.2 a (s'.2.2 a ||| nI (2 ^ (b * (b - 1) / 2 + a)))) b ((upd s'.2.2 a (s'.2.2 a ||| nI (2 ^ (b * (b - 1) / 2 + a)))) b ||| nI (2 ^ (b * (b - 1) / 2 + a)))) ⟨fun q hq => ?_, fun q hq => ?_, fun v hv => ?_⟩
      · show upd s'.1 (b * (b - 1) / 2 + a) (nI a) q = nI (lo q)
        by_cases e : q = b * (b - 1) / 2 + a
        · rw [e, pk_us, f1]
        · rw [pk_un e]; exact hI'.1 q (by omega)
      · show upd s'.2.1 (b * (b - 1) / 2 + a) (nI b) q = nI (hi q)
        by_cases e : q = b * (b - 1) / 2 + a
        · rw [e, pk_us, f2]
        · rw [pk_un e]; exact hI'.2.1 q (by omega)
      · show upd (upd s'.2.2 a _) b _ v = nI (star v % 2 ^ (b * (b - 1) / 2 + a + 1))
        rw [star_step b hb a ha v hv]
        by_cases e : v = b
        · subst e
          rw [pk_us, pk_un (by omega), hI'.2.2 v hv, nx_or, if_pos (Or.inr rfl)]
        · rw [pk_un e]
          by_cases e2 : v = a
          · subst e2
            rw [pk_us, hI'.2.2 v hv, nx_or, if_pos (Or.inl rfl)]
          · rw [pk_un e2, if_neg (by omega)]
            exact hI'.2.2 v hv
/-- how many nodes below c are none of a, b (of a, b, c') -/
def cb (a b c : Nat) : Nat := c - (if a < c then 1 else 0) - (if b < c then 1 else 0)
def cd (a b c d : Nat) : Nat := d - (if a < d then 1 else 0) - (if b < d then 1 else 0) - (if c < d then 1 else 0)
def m2 (a b c : Nat) : Nat := 2 ^ pix a c ||| 2 ^ pix c b
def m3 (a b c d : Nat) : Nat := (2 ^ pix a c ||| 2 ^ pix c d) ||| 2 ^ pix d b
def T2 (p : Nat) (tw : Nat → Int32) : Prop := ∀ q, q < p → ∀ c, c < 6 → c ≠ lo q → c ≠ hi q → tw (4 * q + cb (lo q) (hi q) c) = nI (m2 (lo q) (hi q) c)
def T3 (p : Nat) (tr : Nat → Int32) : Prop := ∀ q, q < p → ∀ c, c < 6 → c ≠ lo q → c ≠ hi q → ∀ d, d < 6 → d ≠ lo q → d ≠ hi q → d ≠ c → tr (12 * q + 3 * cb (lo q) (hi q) c + cd (lo q) (hi q) c d) = nI (m3 (lo q) (hi q) c d)
theorem cb_lt : ∀ b, b < 6 → ∀ a, a < b → ∀ c, c < 6 → c ≠ a → c ≠ b → cb a b c < 4 := by decide +kernel
theorem cb_le : ∀ b, b < 6 → ∀ a, a < b → ∀ c, c < 7 → cb a b c ≤ 4 := by decide +kernel
theorem cd_lt' : ∀ b, b < 6 → ∀ a, a < b → ∀ c, c < 6 → ∀ d, d < 6 → (c ≠ a ∧ c ≠ b ∧ d ≠ a ∧ d ≠ b ∧ d ≠ c) → cd a b c d < 3 := by
  intros
  unfold cd
  repeat' split
  all_goals omega
theorem cd_lt : ∀ b, b < 6 → ∀ a, a < b → ∀ c, c < 6 → c ≠ a → c ≠ b → ∀ d, d < 6 → d ≠ a → d ≠ b → d ≠ c → cd a b c d < 3 := fun b hb a ha c hc h1 h2 d hd h3 h4 h5 => cd_lt' b hb a ha c hc d hd ⟨h1, h2, h3, h4, h5⟩
theorem cb_suc : ∀ b, b < 6 → ∀ a, a < b → ∀ c, c < 6 → cb a b (c + 1) = if c = a ∨ c = b then cb a b c else cb a b c + 1 := by decide +kernel
theorem cd_suc' : ∀ b, b < 6 → ∀ a, a < b → ∀ c, c < 6 → ∀ d, d < 6 → (c ≠ a ∧ c ≠ b) → cd a b c (d + 1) = if d = a ∨ d = b ∨ d = c then cd a b c d else cd a b c d + 1 := by
  intros
  unfold cd
  repeat' split
  all_goals omega
theorem cd_suc : ∀ b, b < 6 → ∀ a, a < b → ∀ c, c < 6 → c ≠ a → c ≠ b → ∀ d, d < 6 → cd a b c (d + 1) = if d = a ∨ d = b ∨ d = c then cd a b c d else cd a b c d + 1 := fun b hb a ha c hc h1 h2 d hd => cd_suc' b hb a ha c hc d hd ⟨h1, h2⟩
theorem cb_mono' : ∀ b, b < 6 → ∀ a, a < b → ∀ c, c < 6 → ∀ c', c' < c → (c' ≠ a ∧ c' ≠ b) → cb a b c' < cb a b c := by
  intros
  unfold cb
  repeat' split
  all_goals omega
theorem cb_mono : ∀ b, b < 6 → ∀ a, a < b → ∀ c, c < 6 → ∀ c', c' < c → c' ≠ a → c' ≠ b → cb a b c' < cb a b c := fun b hb a ha c hc c' h h1 h2 => cb_mono' b hb a ha c hc c' h ⟨h1, h2⟩
theorem cd_mono' : ∀ b, b < 6 → ∀ a, a < b → ∀ c, c < 6 → ∀ d, d < 6 → ∀ d', d' < d → (c ≠ a ∧ c ≠ b ∧ d' ≠ a ∧ d' ≠ b ∧ d' ≠ c) → cd a b c d' < cd a b c d := by
  intros
  unfold cd
  repeat' split
  all_goals omega
theorem cd_mono : ∀ b, b < 6 → ∀ a, a < b → ∀ c, c < 6 → c ≠ a → c ≠ b → ∀ d, d < 6 → ∀ d', d' < d → d' ≠ a → d' ≠ b → d' ≠ c → cd a b c d' < cd a b c d := fun b hb a ha c hc h1 h2 d hd d' h h3 h4 h5 => cd_mono' b hb a ha c hc d hd d' h ⟨h1, h2, h3, h4, h5⟩
theorem cd_6 : ∀ b, b < 6 → ∀ a, a < b → ∀ c, c < 6 → c ≠ a → c ≠ b → cd a b c 6 = 3 := by decide +kernel
def T2c (p c : Nat) (tw : Nat → Int32) : Prop := ∀ c', c' < c → c' ≠ lo p → c' ≠ hi p → tw (4 * p + cb (lo p) (hi p) c') = nI (m2 (lo p) (hi p) c')
def T3c (p c : Nat) (tr : Nat → Int32) : Prop := ∀ c', c' < c → c' ≠ lo p → c' ≠ hi p → ∀ d, d < 6 → d ≠ lo p → d ≠ hi p → d ≠ c' → tr (12 * p + 3 * cb (lo p) (hi p) c' + cd (lo p) (hi p) c' d) = nI (m3 (lo p) (hi p) c' d)
def T3d (p c d : Nat) (tr : Nat → Int32) : Prop := ∀ d', d' < d → d' ≠ lo p → d' ≠ hi p → d' ≠ c → tr (12 * p + 3 * cb (lo p) (hi p) c + cd (lo p) (hi p) c d') = nI (m3 (lo p) (hi p) c d')
theorem s_fillSteps {p : Nat} {f_lo f_hi f_tw f_tr : Nat → Int32} {post : (Nat → Int32) → (Nat → Int32) → Prop} (hp : p < 15) (hlo : ∀ p, p < 15 → f_lo p = nI (lo p)) (hhi : ∀ p, p < 15 → f_hi p = nI (hi p)) (h2 : T2 p f_tw) (h3 : T3 p f_tr)
    (h : ∀ tw tr, T2 (p + 1) tw → T3 (p + 1) tr → post tw tr) : wp_X3_fillSteps (nI p) f_lo f_hi f_tw f_tr post := by
  obtain ⟨hl1, hl2, hl3⟩ := lohi p hp
  refine s_low hlo hp (s_high hhi hp ?_)
  rw [show nI p * (4 : Int32) = nI (4 * p) by rw [show (4 : Int32) = nI 4 from rfl, pk_mul, Nat.mul_comm], show nI p * (12 : Int32) = nI (12 * p) by rw [show (12 : Int32) = nI 12 from rfl, pk_mul, Nat.mul_comm]]
  generalize ha : lo p = a at *
  generalize hb : hi p = b at *
  refine pk_loop (σ := (Nat → Int32) × (Nat → Int32)) (fun n c s => b_X3_fillSteps_32 f_lo f_hi post n (nI a) (nI b) (nI (4 * p + cb a b c)) (nI (12 * p + 3 * cb a b c)) (nI c) s.1 s.2) (fun c s => T2 p s.1 ∧ T3 p s.2 ∧ T2c p c s.1 ∧ T3c p c s.2) 6 0 (f_tw, f_tr) (by omega) ⟨h2, h3, fun c' q => by omega, fun c' q => by omega⟩ ?_ ?_
  · intro n s ⟨g2, g3, gc, gd⟩
    refine c_le (a := 6) (b := 6) (by omega) (by omega) (fun _ => h _ _ (fun q hq => ?_) (fun q hq => ?_)) (fun q => by omega)
    · by_cases e : q = p
      · subst e; exact gc
      · exact g2 q (by omega)
    · by_cases e : q = p
      · subst e; exact gd
      · exact g3 q (by omega)
  · intro n c s hc ⟨g2, g3, gc, gd⟩ ih
    refine c_le (a := 6) (by omega) (by omega) (fun q => by omega) (fun _ => ?_)
    have skip : c = a ∨ c = b → b_X3_fillSteps_32 f_lo f_hi post n (nI a) (nI b) (nI (4 * p + cb a b c)) (nI (12 * p + 3 * cb a b c)) (nI c + 1) s.1 s.2 := by
      intro q
      have e := cb_suc b hl2 a hl1 c hc
      rw [if_pos q] at e
      rw [nI_1, ← e]
      refine ih s ⟨g2, g3, fun c' h1 h2 h3 => gc c' ?_ h2 h3, fun c' h1 h2 h3 => gd c' ?_ h2 h3⟩
      · rw [ha] at h2; rw [hb] at h3; omega
      · rw [ha] at h2; rw [hb] at h3; omega
    refine c_eq (by omega) (by omega) (fun q => skip (Or.inl q)) (fun q1 => c_eq (by omega) (by omega) (fun q => skip (Or.inr q)) (fun q2 => s_indexOf (by omega) (by omega) (s_indexOf (by omega) (by omega) ⟨vp_in_nI (by have := cb_lt b hl2 a hl1 c hc q1 q2; omega) (by omega), ?_⟩)))
    have lt4 := cb_lt b hl2 a hl1 c hc q1 q2
    have e := cb_suc b hl2 a hl1 c hc
    rw [if_neg (by omega)] at e
    rw [nI_1, nI_clamp (by omega), nb_one _ (by have := pix_lt' a (by omega) c (by omega); have := pix_lt a (by omega) c hc (by omega); omega), nb_one _ (by have := pix_lt c hc b hl2 q2; omega), nx_or]
    refine pk_loop (σ := Nat → Int32) (fun n' d tr => b_X3_fillSteps_85 f_lo f_hi post (b_X3_fillSteps_32 f_lo f_hi post n) n' (nI a) (nI b) (nI (4 * p + cb a b c + 1)) (nI (12 * p + 3 * cb a b c + cd a b c d)) (nI c) (nI (2 ^ pix a c)) (nI d) (upd s.1 (4 * p + cb a b c) (nI (m2 a b c))) tr) (fun d tr => T3 p tr ∧ T3c p c tr ∧ T3d p c d tr) 6 0 s.2 (by omega) ⟨g3, gd, fun d' q => by omega⟩ ?_ ?_
    · intro n' tr ⟨k3, kc, kd⟩
      refine c_le (a := 6) (b := 6) (by omega) (by omega) (fun _ => ?_) (fun q => by omega)
      show b_X3_fillSteps_32 f_lo f_hi post n (nI a) (nI b) (nI (4 * p + cb a b c + 1)) (nI (12 * p + 3 * cb a b c + cd a b c 6)) (nI c + 1) _ tr
      rw [nI_1, cd_6 b hl2 a hl1 c hc q1 q2, show 4 * p + cb a b c + 1 = 4 * p + cb a b (c + 1) by omega, show 12 * p + 3 * cb a b c + 3 = 12 * p + 3 * cb a b (c + 1) by omega]
      refine ih (upd s.1 (4 * p + cb a b c) (nI (m2 a b c)), tr) ⟨fun q hq c' h1 h2 h3 => ?_, k3, fun c' h1 h2 h3 => ?_, fun c' h1 h2 h3 d h4 h5 h6 h7 => ?_⟩
      · show upd s.1 (4 * p + cb a b c) (nI (m2 a b c)) _ = _
        obtain ⟨x1, x2, x3⟩ := lohi q (by omega)
        have := cb_lt (hi q) x2 (lo q) x1 c' h1 h2 h3
        rw [pk_un (by omega)]
        exact g2 q hq c' h1 h2 h3
      · show upd s.1 (4 * p + cb a b c) (nI (m2 a b c)) _ = _
        by_cases ec : c' = c
        · subst ec; rw [ha, hb, pk_us]
        · rw [ha] at h2; rw [hb] at h3
          have := cb_mono b hl2 a hl1 c hc c' (by omega) h2 h3
          rw [ha, hb, pk_un (by omega)]
          have := gc c' (by omega) (by rw [ha]; exact h2) (by rw [hb]; exact h3)
          rw [ha, hb] at this
          exact this
      · by_cases ec : c' = c
        · subst ec; exact kd d h4 h5 h6 h7
        · exact kc c' (by omega) h2 h3 d h4 h5 h6 h7
    · intro n' d tr hd ⟨k3, kc, kd⟩ ihd
      refine c_le (a := 6) (by omega) (by omega) (fun q => by omega) (fun _ => ?_)
      have skipd : d = a ∨ d = b ∨ d = c → b_X3_fillSteps_85 f_lo f_hi post (b_X3_fillSteps_32 f_lo f_hi post n) n' (nI a) (nI b) (nI (4 * p + cb a b c + 1)) (nI (12 * p + 3 * cb a b c + cd a b c d)) (nI c) (nI (2 ^ pix a c)) (nI d + 1) (upd s.1 (4 * p + cb a b c) (nI (m2 a b c))) tr := by
        intro q
        have e2 := cd_suc b hl2 a hl1 c hc q1 q2 d hd
        rw [if_pos q] at e2
        rw [nI_1, ← e2]
        refine ihd tr ⟨k3, kc, fun d' h1 h2 h3 h4 => kd d' ?_ h2 h3 h4⟩
        rw [ha] at h2; rw [hb] at h3; omega
      refine c_eq (by omega) (by omega) (fun q => skipd (Or.inl q)) (fun q3 => c_eq (by omega) (by omega) (fun q => skipd (Or.inr (Or.inl q))) (fun q4 => c_eq (by omega) (by omega) (fun q => skipd (Or.inr (Or.inr q))) (fun q5 => s_indexOf (by omega) (by omega) (s_indexOf (by omega) (by omega) ⟨vp_in_nI (by have := cd_lt b hl2 a hl1 c hc q1 q2 d hd q3 q4 q5; omega) (by omega), ?_⟩))))
      have lt3 := cd_lt b hl2 a hl1 c hc q1 q2 d hd q3 q4 q5
      have e2 := cd_suc b hl2 a hl1 c hc q1 q2 d hd
      rw [if_neg (by omega)] at e2
      show b_X3_fillSteps_85 f_lo f_hi post (b_X3_fillSteps_32 f_lo f_hi post n) n' (nI a) (nI b) (nI (4 * p + cb a b c + 1)) (nI (12 * p + 3 * cb a b c + cd a b c d) + 1) (nI c) (nI (2 ^ pix a c)) (nI d + 1) _ _
      rw [nI_1, nI_1, nI_clamp (by omega), nb_one _ (by have := pix_lt c hc d hd (by omega); omega), nb_one _ (by have := pix_lt d hd b hl2 q4; omega), nx_or, nx_or, show 12 * p + 3 * cb a b c + cd a b c d + 1 = 12 * p + 3 * cb a b c + cd a b c (d + 1) by omega]
      refine ihd _ ⟨fun q hq c' h1 h2 h3 d' h4 h5 h6 h7 => ?_, fun c' h1 h2 h3 d' h4 h5 h6 h7 => ?_, fun d' h1 h2 h3 h4 => ?_⟩
      · obtain ⟨x1, x2, x3⟩ := lohi q (by omega)
        have := cb_lt (hi q) x2 (lo q) x1 c' h1 h2 h3
        have := cd_lt (hi q) x2 (lo q) x1 c' h1 h2 h3 d' h4 h5 h6 h7
        rw [pk_un (by omega)]
        exact k3 q hq c' h1 h2 h3 d' h4 h5 h6 h7
      · have r := kc c' h1 h2 h3 d' h4 h5 h6 h7
        rw [ha] at h2 h5 r ⊢; rw [hb] at h3 h6 r ⊢
        have := cb_mono b hl2 a hl1 c hc c' h1 h2 h3
        have := cd_lt b hl2 a hl1 c' (by omega) h2 h3 d' h4 h5 h6 h7
        rw [pk_un (by omega)]
        exact r
      · by_cases ed : d' = d
        · subst ed; rw [ha, hb, pk_us]; rfl
        · have r := kd d' (by omega) h2 h3 h4
          rw [ha] at h2 r ⊢; rw [hb] at h3 r ⊢
          have := cd_mono b hl2 a hl1 c hc q1 q2 d hd d' (by omega) h2 h3 h4
          rw [pk_un (by omega)]
          exact r
theorem s_X3_init {f_lo f_hi : Nat → Int32} {post : (Nat → Int32) → (Nat → Int32) → Nat → (Nat → Int32) → Int32 → Prop} (hlo : ∀ p, p < 15 → f_lo p = nI (lo p)) (hhi : ∀ p, p < 15 → f_hi p = nI (hi p))
    (h : ∀ tw tr, T2 15 tw → T3 15 tr → post tw tr 1 (fun _ => 0) (nI 32767)) : wp_X3_init f_lo f_hi post := by
  refine pk_loop (σ := (Nat → Int32) × (Nat → Int32)) (fun n p s => b_X3_init_42 f_lo f_hi post n (nI p) s.1 s.2 1 (fun _ => 0) (nI 32767)) (fun p s => T2 p s.1 ∧ T3 p s.2) 15 0 (fun _ => 0, fun _ => 0) (by omega) ⟨fun q hq => by omega, fun q hq => by omega⟩ ?_ ?_
  · intro n s ⟨g2, g3⟩
    exact c_le (a := 15) (b := 15) (by omega) (by omega) (fun _ => h _ _ g2 g3) (fun q => by omega)
  · intro n p s hp ⟨g2, g3⟩ ih
    refine c_le (a := 15) (by omega) (by omega) (fun q => by omega) (fun _ => s_fillSteps hp hlo hhi g2 g3 (fun tw tr t2 t3 => ?_))
    rw [nI_1]
    exact ih (tw, tr) ⟨t2, t3⟩
