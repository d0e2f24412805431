/-! what is kept of the things -/
theorem nb_clear {r p : Nat} (hr : r < 2 ^ p) (hp : p < 31) : nI (r + 2 ^ p) &&& (nI (2 ^ p) ^^^ (-1 : Int32)) = nI r := by
  apply Int32.toBitVec_inj.1
  show BitVec.ofNat 32 (r + 2 ^ p) &&& (BitVec.ofNat 32 (2 ^ p) ^^^ (-1 : Int32).toBitVec) = BitVec.ofNat 32 r
  have m1 : (-1 : Int32).toBitVec = BitVec.allOnes 32 := by decide
  rw [m1]
  apply BitVec.eq_of_getLsbD_eq
  intro i hi
  have e2 := Nat.two_pow_add_eq_or_of_lt hr 1
  rw [Nat.mul_one, Nat.add_comm] at e2
  simp only [BitVec.getLsbD_and, BitVec.getLsbD_xor, BitVec.getLsbD_ofNat, BitVec.getLsbD_allOnes, hi, decide_true, Bool.true_and, e2, Nat.testBit_or, Nat.testBit_two_pow]
  by_cases h : p = i
  · subst h
    rw [Nat.testBit_lt_two_pow hr]
    simp
  · simp [h]
def KE (kn : Nat) (f : Nat → Int32) : Prop := ∀ j, j < kn → f j = 0 ∨ f j = nI (enc j)
theorem sub_one (x : Int32) : x + (-1) = x - 1 := (Int32.sub_eq_add_neg x 1).symm
theorem s_keptOf {kn : Nat} {f_tw f_tr f_lo f_hi f_st : Nat → Int32} (hT : TB f_tw f_tr f_lo f_hi f_st) (hkn : kn < 2 ^ 30) : ∀ (d e g : Nat) (f_ke : Nat → Int32) (post : Int32 → (Nat → Int32) → Prop), e ≤ d → e ≤ 15 → g < 2 ^ e → g < kn → KE kn f_ke → (∀ f', KE kn f' → post (nI (enc g)) f') → wp_X3_keptOf (d + 1) (nI g) (nI e) f_tw f_tr kn f_lo f_hi f_st f_ke post := by
  intro d
  induction d with
  | zero =>
    intro e g f_ke post he he15 hg hgk hK h
    obtain rfl : e = 0 := by omega
    have g0 : g = 0 := by simpa using hg
    subst g0
    refine c_lt (b := 0) (by omega) (by omega) (fun q => by omega) (fun _ => c_lt (by omega) (by omega) (fun _ => ⟨vp_in_nI hgk (by omega), ?_⟩) (fun q => by omega))
    rw [nI_clamp (by omega)]
    refine ⟨fun _ => ⟨1, ⟨fun _ => ?_, fun c => absurd (by decide) c⟩⟩, fun c => ?_⟩
    · have := h f_ke hK
      rw [enc0] at this
      exact this
    · rcases hK 0 hgk with q | q
      · exact absurd q c
      · rw [enc0] at q; exact absurd q c
  | succ d ih =>
    intro e g f_ke post he he15 hg hgk hK h
    have hg15 : g < 32768 := Nat.lt_of_lt_of_le hg (Nat.pow_le_pow_right (by decide) he15)
    refine c_lt (b := 0) (by omega) (by omega) (fun q => by omega) (fun _ => c_lt (by omega) (by omega) (fun _ => ⟨vp_in_nI hgk (by omega), ?_⟩) (fun q => by omega))
    rw [nI_clamp (by omega)]
    refine ⟨fun _ => ?_, fun c => ⟨vp_in_nI hgk (by omega), ?_⟩⟩
    · have loop : ∀ q, q ≤ e → g < 2 ^ q → b_X3_keptOf_35 f_tw f_tr kn f_lo f_hi f_st (wp_X3_keptOf (d + 1)) post (q + 1) (nI g) (nI q - 1) f_ke := by
        intro q
        induction q with
        | zero =>
          intro _ hq
          have g0 : g = 0 := by simpa using hq
          refine ⟨fun _ => ?_, fun c => absurd (by decide) c⟩
          have := h f_ke hK
          rw [g0, enc0] at this
          exact this
        | succ p ihp =>
          intro hp hq
          rw [nI_pred]
          refine c_lt (b := 0) (by omega) (by omega) (fun q => by omega) (fun _ => ?_)
          rw [nb_bit (by omega) (by omega), sub_one]
          have lt : g % 2 ^ p < 2 ^ p := Nat.mod_lt _ (Nat.two_pow_pos p)
          have dec := low_suc g p
          rw [Nat.mod_eq_of_lt hq] at dec
          refine c01 (bit_01 g p) (fun e0 => ihp (by omega) ?_) (fun e1 z hz => ?_)
          · rw [e0, Nat.zero_mul, Nat.add_zero] at dec
            rw [dec]; exact lt
          · rw [e1, Nat.one_mul] at dec
            generalize g % 2 ^ p = r at lt dec
            subst dec
            rw [nb_one _ (by omega), nb_clear lt (by omega)] at hz
            subst hz
            refine ih p r f_ke _ (by omega) (by omega) lt (by omega) hK (fun f' hK' => s_withEdge hT (by omega) lt ⟨vp_in_nI hgk (by omega), vp_in_nI hgk (by omega), ?_⟩)
            rw [nI_clamp (by omega), pk_us]
            refine h _ (fun j hj => ?_)
            by_cases c : j = r + 2 ^ p
            · rw [c, pk_us]; exact Or.inr rfl
            · rw [pk_un c]; exact hK' j hj
      exact ⟨e + 1, loop e (Nat.le_refl _) hg⟩
    · rcases hK g hgk with q | q
      · exact absurd q c
      · rw [q]; exact h f_ke hK
theorem s_isQuick {w : Nat} {post : Int32 → Prop} (hw : w < 8) (h : post (nI (if w = 0 ∨ w = 7 then 1 else 0))) : wp_X3_isQuick (nI w) post := by
  refine c_eq (b := 0) (by omega) (by omega) (fun c => ?_) (fun c => c_eq (b := 7) (by omega) (by omega) (fun c2 => ?_) (fun c2 => ?_))
  · rw [if_pos (Or.inl c)] at h; exact h
  · rw [if_pos (Or.inr c2)] at h; exact h
  · rw [if_neg (by omega)] at h; exact h
theorem s_look {w n g msk kn : Nat} {f_tw f_tr f_lo f_hi f_st f_ke : Nat → Int32} {post : Int32 → (Nat → Int32) → Prop} (hT : TB f_tw f_tr f_lo f_hi f_st) (hkn : kn < 2 ^ 30) (hw : w < 8) (hn : n ≤ 6) (hg : gr n g) (hm : msk < 32768) (hk : w = 0 ∨ w = 7 ∨ g < kn) (hK : KE kn f_ke) (h : ∀ f', KE kn f' → post (nI (thg n msk g w)) f') : wp_X3_look (nI w) (nI g) (nI n) (nI msk) f_tw f_tr kn f_lo f_hi f_st f_ke post := by
  refine s_isQuick hw ?_
  by_cases c : w = 0 ∨ w = 7
  · rw [if_pos c]
    exact c01 (v := 1) (Or.inr rfl) (fun e => by omega) (fun _ => s_read (pk := 0) hw hn hg hm (fun h1 h2 => absurd c (by omega)) (h f_ke hK))
  · rw [if_neg c]
    exact c01 (v := 0) (Or.inl rfl) (fun _ => s_keptOf hT hkn 15 15 g f_ke _ (by omega) (by omega) (gr_lt hn hg) (by omega) hK (fun f' hK' => s_read hw hn hg hm (fun _ _ => rfl) (h f' hK'))) (fun e => by omega)
theorem s_makeRoom {w S kn mC mS : Nat} {f_ke : Nat → Int32} {post : Nat → (Nat → Int32) → Prop} (hw : w < 8) (hS : S ≤ 32768) (hkn : kn ≤ 32768) (hK : KE kn f_ke) (hb : w ≠ 0 → w ≠ 7 → kn < S → 1 ≤ mC ∧ S ≤ mS)
    (h : ∀ f', KE (if w = 0 ∨ w = 7 then kn else max kn S) f' → post (if w = 0 ∨ w = 7 then kn else max kn S) f') : wp_X3_makeRoom (nI w) (nI S) kn f_ke mC mS post := by
  refine s_isQuick hw ?_
  by_cases c : w = 0 ∨ w = 7
  · rw [if_pos c] at h ⊢
    exact c01 (v := 1) (Or.inr rfl) (fun e => by omega) (fun _ => h f_ke hK)
  · rw [if_neg c] at h ⊢
    refine c01 (v := 0) (Or.inl rfl) (fun _ => c_le (by omega) (by omega) (fun q => ?_) (fun q => c_lt (a := 32768) (by omega) (by omega) (fun q2 => by omega) (fun _ => ?_))) (fun e => by omega)
    · rw [Nat.max_eq_left q] at h; exact h f_ke hK
    · obtain ⟨b1, b2⟩ := hb (by omega) (by omega) q
      have ck : (Int32.ofNat kn).toNatClampNeg = kn := nI_clamp (by omega)
      rw [Nat.max_eq_right (by omega)] at h
      rw [nI_clamp (by omega), ck]
      refine ⟨⟨nI_pos (by omega), by omega, by omega, by omega⟩, ⟨by decide, by decide, nI_pos (n := kn) (by omega), ?_, ?_⟩, h _ (fun j hj => ?_)⟩
      · rw [sb_cl0]; omega
      · rw [sb_cl0]; omega
      · rw [sb_cl0]
        by_cases cj : j < kn
        · rw [pk_cpy_in (by omega) (by omega)]
          have := hK j cj
          rw [show 0 + (j - 0) = j by omega]
          exact this
        · rw [pk_cpy_out (by omega)]
          exact Or.inl rfl
