theorem s_hang32 {g t r st : Nat} {f_lo f_hi : Nat → Int32} {post : Int32 → Prop} {k11 : Int32 → Int32 → Int32 → Int32 → Int32 → Prop} {x5 : Int32} (hg : g < 2 ^ 31) (hr : r < 64) (hst : st < 100) (hlo : ∀ p, p < 15 → f_lo p = nI (lo p)) (hhi : ∀ p, p < 15 → f_hi p = nI (hi p))
    (h : k11 (nI g) (nI t) (nI (pas g r 15)) x5 (nI (st + 1))) : ∃ n, b_X1_hangTogether_32 f_lo f_hi post k11 n (nI g) (nI t) (nI r) x5 (nI st) (nI 0) := by
  refine lp0 (fun n p => b_X1_hangTogether_32 f_lo f_hi post k11 n (nI g) (nI t) (nI (pas g r p)) x5 (nI st) (nI p)) 0 15 (by omega) (fun n => c_le (a := 15) (b := 15) (by omega) (by omega) (fun _ => ?_) (fun q => by omega)) (fun n p _ hp ih => c_le (a := 15) (by omega) (by omega) (fun q => by omega) (fun _ => ⟨vp_in_nI hp (by omega), vp_in_nI hp (by omega), fun z hz => ?_⟩))
  · rw [nI_1]; exact h
  · have hl := lohi p hp
    have lt := pas_lt (g := g) hr p (by omega)
    rw [nI_clamp (by omega), hlo p hp, hhi p hp, nb_one _ (by omega), nb_one _ (by omega), nx_or] at hz
    subst hz
    have el := ends_lt hp
    rw [nb_bit hg (by omega), nx_and, nx_or]
    have fin : ∀ v, ps g (pas g r p) p = v → b_X1_hangTogether_32 f_lo f_hi post k11 n (nI g) (nI t) (nI v) x5 (nI st) (nI p + 1) := by
      intro v hv
      subst hv
      rw [nI_1]
      exact ih
    have al : pas g r p &&& (2 ^ lo p ||| 2 ^ hi p) ≤ pas g r p := Nat.and_le_left
    refine c01 (bit_01 g p) (fun e => fin _ (by unfold ps; rw [if_neg (fun q => by omega)])) (fun e => ?_)
    exact c_eq (b := 0) (by omega) (by omega) (fun q => fin _ (by unfold ps; rw [if_neg (fun k => k.2 q)])) (fun q => fin _ (by unfold ps; rw [if_pos ⟨e, q⟩]))
theorem s_hangTogether {g a t : Nat} {f_lo f_hi : Nat → Int32} {post : Int32 → Prop} (hg : g < 2 ^ 31) (ha : a < 6) (ht : t < 6) (hlo : ∀ p, p < 15 → f_lo p = nI (lo p)) (hhi : ∀ p, p < 15 → f_hi p = nI (hi p))
    (h : post (nI (if rp g 15 a = rp g 15 t then 1 else 0))) : wp_X1_hangTogether (nI g) (nI a) (nI t) f_lo f_hi post := by
  -- the end: a set that is closed, or full
  have fin : ∀ r, r < 64 → bit r a = 1 → (∀ v, bit r v = 1 → rp g 15 v = rp g 15 a) → (cl g 15 (fun v => bit r v = 1) ∨ 6 ≤ cnt r 6) → b_X1_hangTogether_96 f_lo f_hi post (nI t) (nI r) := by
    intro r hr h1 h2 h3
    have iff : bit r t = 1 ↔ rp g 15 a = rp g 15 t := by
      constructor
      · intro q; exact (h2 t q).symm
      · intro q
        rcases h3 with h3 | h3
        · have k1 := (rp_cl h3 a).mp h1
          rw [q] at k1
          exact (rp_cl h3 t).mpr k1
        · rw [cnt6] at h3
          have := bit_lt r 0; have := bit_lt r 1; have := bit_lt r 2; have := bit_lt r 3; have := bit_lt r 4; have := bit_lt r 5
          rcases (show t = 0 ∨ t = 1 ∨ t = 2 ∨ t = 3 ∨ t = 4 ∨ t = 5 by omega) with rfl | rfl | rfl | rfl | rfl | rfl <;> omega
    unfold b_X1_hangTogether_96
    rw [nb_bit (by omega) (by omega)]
    refine c01 (bit_01 r t) (fun e => ?_) (fun e => ?_)
    · rw [if_neg (fun q => by have := iff.mpr q; omega)] at h; exact h
    · rw [if_pos (iff.mp e)] at h; exact h
  have main : ∀ k st r b, st + k = 7 → r < 64 → b < 64 → bit r a = 1 → (∀ v, bit r v = 1 → rp g 15 v = rp g 15 a) → ((r = b ∧ cl g 15 (fun v => bit r v = 1)) ∨ (r ≠ b ∧ st ≤ cnt r 6)) → b_X1_hangTogether_11 f_lo f_hi post (k + 1) (nI g) (nI t) (nI r) (nI b) (nI st) := by
    intro k
    induction k with
    | zero =>
      intro st r b hk hr hb h1 h2 h3
      refine c_le (a := 6) (by omega) (by omega) (fun _ => fin r hr h1 h2 ?_) (fun q => by omega)
      rcases h3 with h3 | h3
      · exact Or.inl h3.2
      · exact Or.inr (by omega)
    | succ k ih =>
      intro st r b hk hr hb h1 h2 h3
      refine c_le (a := 6) (by omega) (by omega) (fun q => fin r hr h1 h2 ?_) (fun q => c_eq (by omega) (by omega) (fun e => fin r hr h1 h2 ?_) (fun e => ?_))
      · rcases h3 with h3 | h3
        · exact Or.inl h3.2
        · exact Or.inr (by omega)
      · rcases h3 with h3 | h3
        · exact Or.inl h3.2
        · exact absurd e h3.1
      · have h3' : st ≤ cnt r 6 := by
          rcases h3 with h3 | h3
          · exact absurd h3.1 e
          · exact h3.2
        refine s_hang32 hg hr (by omega) hlo hhi (ih (st + 1) (pas g r 15) r (by omega) (pas_lt hr 15 (by omega)) hr ?_ ?_ ?_)
        · have := pas_sup g r a 0 15
          have := bit_lt (pas g r 15) a
          rw [show pas g r 0 = r from rfl, Nat.zero_add] at *
          omega
        · exact pas_in hr (rp_class g 15 a) h2 15 (by omega)
        · by_cases he : pas g r 15 = r
          · left
            refine ⟨he, ?_⟩
            rw [he]
            exact pas_fix hr he
          · right
            refine ⟨he, ?_⟩
            have := cnt_grow hr (pas_lt hr 15 (Nat.le_refl _)) (fun v _ => by have := pas_sup g r v 0 15; rwa [Nat.zero_add] at this) he
            omega
  refine ⟨7, ?_⟩
  rw [nb_one _ (by omega)]
  refine main 6 1 (2 ^ a) 0 (by omega) (pow_lt64 a ha) (by omega) (by rw [bit_pow, if_pos rfl]) (fun v hv => ?_) (Or.inr ⟨?_, ?_⟩)
  · rw [bit_pow] at hv
    by_cases e : v = a
    · rw [e]
    · rw [if_neg e] at hv; omega
  · have := Nat.two_pow_pos a; omega
  · exact (show ∀ a, a < 6 → 1 ≤ cnt (2 ^ a) 6 by decide +kernel) a ha
