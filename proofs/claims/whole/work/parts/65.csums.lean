/-! the class's sums -/
theorem kpr_le {M t n kn : Nat} (hn : n ≤ 6) (hkn : kn ≤ 32768) : kpr M t n kn ≤ 32768 ∧ kn ≤ kpr M t n kn ∧ (M = 3 → t ≠ 1 → 2 ^ (n * (n - 1) / 2) ≤ kpr M t n kn) := by
  have := two_lt hn
  unfold kpr
  split
  · exact ⟨by omega, by omega, fun _ _ => by omega⟩
  · rename_i c; exact ⟨hkn, Nat.le_refl _, fun a b => absurd ⟨a, b⟩ c⟩
theorem s_isModel6 {M : Nat} {post : Int32 → Prop} (hM : M < 4) (h : post 1) : wp_X6_isModel (nI M) post := c_lt (b := 0) (by omega) (by omega) (fun q => by omega) (fun _ => c_le (a := 4) (by omega) (by omega) (fun q => by omega) (fun _ => h))
theorem s_isThing6 {w : Nat} {post : Int32 → Prop} (hw : w < 8) (h : post 1) : wp_X6_isThing (nI w) post := c_lt (b := 0) (by omega) (by omega) (fun q => by omega) (fun _ => c_le (a := 8) (by omega) (by omega) (fun q => by omega) (fun _ => h))
theorem s_isSide6 {w : Nat} {post : Int32 → Prop} (hw : w < 2) (h : post 1) : wp_X6_isSideOrPart (nI w) post := c_eq (b := 0) (by omega) (by omega) (fun _ => h) (fun q => c_eq (b := 1) (by omega) (by omega) (fun _ => h) (fun q2 => by omega))
theorem if_le {c : Prop} [Decidable c] {x : Nat} : (if c then x else 0) ≤ x := by split <;> omega
theorem yes1 {A B : Prop} (h : B) : ((1 : Int32) = 0 → A) ∧ (¬ (1 : Int32) = 0 → B) := ⟨fun c => absurd c (by decide), fun _ => h⟩
theorem s_sumOfWeights {M u v s t n G msk kn : Nat} {f_be f_bt : Nat → Int64} {f_dg f_tw f_tr f_lo f_hi f_st f_ke : Nat → Int32} {post : Int64 → (Nat → Int32) → Prop} (hT : TB f_tw f_tr f_lo f_hi f_st) (hM : MP M u v s t n G) (hR : PR M u v s t n G f_be f_bt f_dg) (hm : msk < 32768) (hkn : kn ≤ 32768) (hk : M = 3 → t ≠ 1 → 2 ^ (n * (n - 1) / 2) ≤ kn) (hK : KE kn f_ke)
    (h : ∀ f', KE kn f' → post (lN (sm (wtf M u v s t n G) (2 ^ (n * (n - 1) / 2)))) f') : wp_X6_sumOfWeights (nI (2 ^ (n * (n - 1) / 2))) (nI t) (nI M) (nI n) f_be f_bt f_dg (nI msk) f_tw f_tr kn f_lo f_hi f_st f_ke post := by
  have ht := two_lt hM.2.2.2.2.2.1
  refine pk_loop (σ := Nat → Int32) (fun k g f => b_X6_sumOfWeights_4 (nI (2 ^ (n * (n - 1) / 2))) (nI t) (nI M) (nI n) f_be f_bt f_dg (nI msk) f_tw f_tr kn f_lo f_hi f_st post k (lN (sm (wtf M u v s t n G) g)) (nI g) f) (fun _ f => KE kn f) (2 ^ (n * (n - 1) / 2)) 0 f_ke (Nat.zero_le _) hK ?_ ?_
  · intro k f hf
    exact c_le (by omega) (by omega) (fun _ => h f hf) (fun q => by omega)
  · intro k g f hg hf ih
    refine c_le (by omega) (by omega) (fun q => by omega) (fun _ => s_of hT hM hR hg hm (by omega) hk hf (fun f' hf' => ?_))
    rw [lN_add, nI_1]
    exact ih f' hf'
/-- how many graphs weigh more than nothing -/
def npos (M u v s t n G k : Nat) : Nat := sm (fun g => if wtf M u v s t n G g = 0 then 0 else 1) k
theorem s_many6 {M u v s t n G msk kn mC mS : Nat} {wm wo wn : Int32} {f_be f_bt : Nat → Int64} {f_dg f_tw f_tr f_lo f_hi f_st f_ke : Nat → Int32} {post : Int32 → Int32 → Int32 → Int32 → (Nat → Int64) → (Nat → Int64) → (Nat → Int32) → Nat → (Nat → Int32) → Prop} (hT : TB f_tw f_tr f_lo f_hi f_st) (hM : MP M u v s t n G) (hm : msk < 32768) (hkn : kn ≤ 32768) (hK : KE kn f_ke) (hb : kn < kpr M t n kn → 1 ≤ mC ∧ 2 ^ (n * (n - 1) / 2) ≤ mS)
    (h : ∀ f_be' f_bt' f_dg' f_ke', KE (kpr M t n kn) f_ke' → post (nI (npos M u v s t n G (2 ^ (n * (n - 1) / 2)))) (nI M) (nI G) (nI n) f_be' f_bt' f_dg' (kpr M t n kn) f_ke') : wp_X6_many (nI M) (nI n) (nI (2 ^ (n * (n - 1) / 2))) (nI G) (nI u) (nI v) (nI s) (nI t) (nI msk) f_tw f_tr f_lo f_hi f_st wm wo wn f_be f_bt f_dg kn f_ke mC mS post := by
  have ht := two_lt hM.2.2.2.2.2.1
  have hp := p15
  obtain ⟨k1, k2, k3⟩ := kpr_le (M := M) (t := t) hM.2.2.2.2.2.1 hkn
  refine s_isModel6 hM.1 (yes1 ⟨mC, mS, by omega, by omega, s_prepare hM hT.2.2.1 hkn hK hb (fun be bt dg ke hR hK' => ?_)⟩)
  refine pk_loop (σ := Nat → Int32) (fun k g f => b_X6_many_29 (nI n) (nI (2 ^ (n * (n - 1) / 2))) (nI G) (nI u) (nI v) (nI s) (nI t) (nI msk) f_tw f_tr f_lo f_hi f_st mC mS post k (nI (npos M u v s t n G g)) (nI g) (nI M) (nI G) (nI n) be bt dg (kpr M t n kn) f) (fun _ f => KE (kpr M t n kn) f) (2 ^ (n * (n - 1) / 2)) 0 ke (Nat.zero_le _) hK' ?_ ?_
  · intro k f hf
    exact c_le (by omega) (by omega) (fun _ => h _ _ _ f hf) (fun q => by omega)
  · intro k g f hg hf ih
    refine c_le (by omega) (by omega) (fun q => by omega) (fun _ => s_of hT hM hR hg hm (by omega) k3 hf (fun f' hf' => ?_))
    have wl := wtf_lt hM (g := g) hg
    rw [lg0 (by omega)]
    have e : npos M u v s t n G (g + 1) = npos M u v s t n G g + (if wtf M u v s t n G g = 0 then 0 else 1) := rfl
    refine ⟨fun c => ?_, fun c => ?_⟩
    · show b_X6_many_29 (nI n) (nI (2 ^ (n * (n - 1) / 2))) (nI G) (nI u) (nI v) (nI s) (nI t) (nI msk) f_tw f_tr f_lo f_hi f_st mC mS post k (nI (npos M u v s t n G g)) (nI g + 1) (nI M) (nI G) (nI n) be bt dg (kpr M t n kn) f'
      rw [if_pos c] at e
      rw [nI_1, ← Nat.add_zero (npos M u v s t n G g), ← e]
      exact ih f' hf'
    · show b_X6_many_29 (nI n) (nI (2 ^ (n * (n - 1) / 2))) (nI G) (nI u) (nI v) (nI s) (nI t) (nI msk) f_tw f_tr f_lo f_hi f_st mC mS post k (nI (npos M u v s t n G g) + 1) (nI g + 1) (nI M) (nI G) (nI n) be bt dg (kpr M t n kn) f'
      rw [if_neg c] at e
      rw [nI_1, nI_1, ← e]
      exact ih f' hf'
theorem s_total6 {M u v s t n G msk kn mC mS : Nat} {wm wo wn : Int32} {f_be f_bt : Nat → Int64} {f_dg f_tw f_tr f_lo f_hi f_st f_ke : Nat → Int32} {post : Int64 → Int32 → Int32 → Int32 → (Nat → Int64) → (Nat → Int64) → (Nat → Int32) → Nat → (Nat → Int32) → Prop} (hT : TB f_tw f_tr f_lo f_hi f_st) (hM : MP M u v s t n G) (hm : msk < 32768) (hkn : kn ≤ 32768) (hK : KE kn f_ke) (hb : kn < kpr M t n kn → 1 ≤ mC ∧ 2 ^ (n * (n - 1) / 2) ≤ mS)
    (h : ∀ f_be' f_bt' f_dg' f_ke', KE (kpr M t n kn) f_ke' → post (lN (sm (wtf M u v s t n G) (2 ^ (n * (n - 1) / 2)))) (nI M) (nI G) (nI n) f_be' f_bt' f_dg' (kpr M t n kn) f_ke') : wp_X6_total (nI M) (nI n) (nI (2 ^ (n * (n - 1) / 2))) (nI G) (nI u) (nI v) (nI s) (nI t) (nI msk) f_tw f_tr f_lo f_hi f_st wm wo wn f_be f_bt f_dg kn f_ke mC mS post := by
  obtain ⟨k1, k2, k3⟩ := kpr_le (M := M) (t := t) hM.2.2.2.2.2.1 hkn
  exact s_isModel6 hM.1 (yes1 ⟨mC, mS, by omega, by omega, s_prepare hM hT.2.2.1 hkn hK hb (fun be bt dg ke hR hK' => s_sumOfWeights hT hM hR hm k1 k3 hK' (fun f' hf' => h _ _ _ f' hf'))⟩)
theorem s_likely6 {M u v s t n G msk kn mC mS : Nat} {wm wo wn : Int32} {f_be f_bt : Nat → Int64} {f_dg f_tw f_tr f_lo f_hi f_st f_ke : Nat → Int32} {w : Nat} {post : Int64 → Int32 → Int32 → Int32 → (Nat → Int64) → (Nat → Int64) → (Nat → Int32) → Nat → (Nat → Int32) → Prop} (hT : TB f_tw f_tr f_lo f_hi f_st) (hM : MP M u v s t n G) (hm : msk < 32768) (hkn : kn ≤ 32768) (hK : KE kn f_ke) (h1 : MQ1 v s t) (hw : w < 2) (hb : kn < kpr M t n kn → 1 ≤ mC ∧ 2 ^ (n * (n - 1) / 2) ≤ mS)
    (h : ∀ f_be' f_bt' f_dg' f_ke', KE (kpr M t n kn) f_ke' → post (lN ((if w = 0 then wtf M u v s t n G G else sm (wtf M u v s t n G) (2 ^ (n * (n - 1) / 2))) / Nat.gcd (wtf M u v s t n G G) (sm (wtf M u v s t n G) (2 ^ (n * (n - 1) / 2))))) (nI M) (nI G) (nI n) f_be' f_bt' f_dg' (kpr M t n kn) f_ke') : wp_X6_likely (nI M) (nI w) (nI n) (nI (2 ^ (n * (n - 1) / 2))) (nI G) (nI u) (nI v) (nI s) (nI t) (nI msk) f_tw f_tr f_lo f_hi f_st wm wo wn f_be f_bt f_dg kn f_ke mC mS post := by
  obtain ⟨k1, k2, k3⟩ := kpr_le (M := M) (t := t) hM.2.2.2.2.2.1 hkn
  have hp := p15
  have wl := wtf_lt hM (g := G) hM.2.2.2.2.2.2
  have tl := tot_lt hM
  have tp := tot_pos hM h1
  exact s_isModel6 hM.1 (yes1 (s_isSide6 hw (yes1 ⟨mC, mS, by omega, by omega, s_prepare hM hT.2.2.1 hkn hK hb (fun be bt dg ke hR hK' => s_of hT hM hR hM.2.2.2.2.2.2 hm (by omega) k3 hK' (fun f1 hf1 => s_sumOfWeights hT hM hR hm k1 k3 hf1 (fun f' hf' => s_tell (by omega) (by omega) (by omega) hw (h _ _ _ f' hf'))))⟩)))
/-- the weights of graphs that have a pair as an edge -/
def psum (M u v s t n G p k : Nat) : Nat := sm (fun g => if bit g p = 1 then wtf M u v s t n G g else 0) k
theorem sm_sub {f h : Nat → Nat} {n : Nat} (H : ∀ i, f i ≤ h i) : sm f n ≤ sm h n := sm_mono (fun i _ => H i)
theorem and_pow {g p : Nat} (hp : p < 15) (hg : g < 32768) : nI g &&& nI (2 ^ p) = nI (bit g p * 2 ^ p) := by
  rw [nx_and]
  congr 1
  apply Nat.eq_of_testBit_eq
  intro i
  rw [Nat.testBit_and, Nat.testBit_two_pow]
  rcases bit_01 g p with e | e
  · rw [e, Nat.zero_mul, Nat.zero_testBit]
    by_cases c : p = i
    · subst c
      have : g.testBit p = false := by
        cases q : g.testBit p
        · rfl
        · have := bit1.mpr q; omega
      rw [this]; rfl
    · simp [c]
  · rw [e, Nat.one_mul, Nat.testBit_two_pow]
    by_cases c : p = i
    · subst c; rw [bit1.mp e]; simp
    · simp [c]
theorem s_isNode6 {n a : Nat} {post : Int32 → Prop} (hn : n ≤ 6) (ha : a < n) (h : post 1) : wp_X6_isNode (nI a) (nI n) post := c_lt (b := 0) (by omega) (by omega) (fun q => by omega) (fun _ => c_le (by omega) (by omega) (fun q => by omega) (fun _ => h))
theorem s_pair6 {M u v s t n G msk kn mC mS : Nat} {wm wo wn : Int32} {f_be f_bt : Nat → Int64} {f_dg f_tw f_tr f_lo f_hi f_st f_ke : Nat → Int32} {a b w : Nat} {post : Int64 → Int32 → Int32 → Int32 → (Nat → Int64) → (Nat → Int64) → (Nat → Int32) → Nat → (Nat → Int32) → Prop} (hT : TB f_tw f_tr f_lo f_hi f_st) (hM : MP M u v s t n G) (hm : msk < 32768) (hkn : kn ≤ 32768) (hK : KE kn f_ke) (h1 : MQ1 v s t) (hw : w < 2) (hpair : ∀ post : Int32 → Prop, post 1 → wp_X6_isPair (nI a) (nI b) (nI n) post) (ha : a < n) (hbn : b < n) (hab : a ≠ b) (hb : kn < kpr M t n kn → 1 ≤ mC ∧ 2 ^ (n * (n - 1) / 2) ≤ mS)
    (h : ∀ f_be' f_bt' f_dg' f_ke', KE (kpr M t n kn) f_ke' → post (lN ((if w = 0 then psum M u v s t n G (pix a b) (2 ^ (n * (n - 1) / 2)) else sm (wtf M u v s t n G) (2 ^ (n * (n - 1) / 2))) / Nat.gcd (psum M u v s t n G (pix a b) (2 ^ (n * (n - 1) / 2))) (sm (wtf M u v s t n G) (2 ^ (n * (n - 1) / 2))))) (nI M) (nI G) (nI n) f_be' f_bt' f_dg' (kpr M t n kn) f_ke') : wp_X6_pair (nI M) (nI a) (nI b) (nI w) (nI n) (nI (2 ^ (n * (n - 1) / 2))) (nI G) (nI u) (nI v) (nI s) (nI t) (nI msk) f_tw f_tr f_lo f_hi f_st wm wo wn f_be f_bt f_dg kn f_ke mC mS post := by
  obtain ⟨k1, k2, k3⟩ := kpr_le (M := M) (t := t) hM.2.2.2.2.2.1 hkn
  have h6 := hM.2.2.2.2.2.1
  have ht := two_lt h6
  have tl := tot_lt hM
  have tp := tot_pos hM h1
  have pl := pix_lt a (by omega) b (by omega) hab
  have sl : psum M u v s t n G (pix a b) (2 ^ (n * (n - 1) / 2)) ≤ sm (wtf M u v s t n G) (2 ^ (n * (n - 1) / 2)) := sm_sub (fun g => by split <;> omega)
  refine s_isModel6 hM.1 (yes1 (hpair _ (yes1 (s_isSide6 hw (yes1 ⟨mC, mS, by omega, by omega, s_prepare hM hT.2.2.1 hkn hK hb (fun be bt dg ke hR hK' => s_indexOf (by omega) (by omega) ?_)⟩)))))
  rw [nb_one _ (by omega)]
  refine pk_loop (σ := Nat → Int32) (fun k g f => b_X6_pair_62 (nI n) (nI (2 ^ (n * (n - 1) / 2))) (nI G) (nI u) (nI v) (nI s) (nI t) (nI msk) f_tw f_tr f_lo f_hi f_st mC mS post k (nI w) (nI (2 ^ pix a b)) (lN (psum M u v s t n G (pix a b) g)) (lN (sm (wtf M u v s t n G) g)) (nI g) (nI M) (nI G) (nI n) be bt dg (kpr M t n kn) f) (fun _ f => KE (kpr M t n kn) f) (2 ^ (n * (n - 1) / 2)) 0 ke (Nat.zero_le _) hK' ?_ ?_
  · intro k f hf
    exact c_le (by omega) (by omega) (fun _ => s_tell (by omega) (by omega) (by omega) hw (h _ _ _ f hf)) (fun q => by omega)
  · intro k g f hg hf ih
    refine c_le (by omega) (by omega) (fun q => by omega) (fun _ => s_of hT hM hR hg hm (by omega) k3 hf (fun f' hf' => ?_))
    rw [and_pow pl (by omega)]
    have fin : ∀ x, (if bit g (pix a b) = 1 then wtf M u v s t n G g else 0) = x → b_X6_pair_62 (nI n) (nI (2 ^ (n * (n - 1) / 2))) (nI G) (nI u) (nI v) (nI s) (nI t) (nI msk) f_tw f_tr f_lo f_hi f_st mC mS post k (nI w) (nI (2 ^ pix a b)) (lN (psum M u v s t n G (pix a b) g) + lN x) (lN (sm (wtf M u v s t n G) g) + lN (wtf M u v s t n G g)) (nI g + 1) (nI M) (nI G) (nI n) be bt dg (kpr M t n kn) f' := by
      intro x hx
      subst hx
      rw [lN_add, lN_add, nI_1]
      exact ih f' hf'
    have pp := Nat.two_pow_pos (pix a b)
    have p15 : 2 ^ pix a b < 2 ^ 30 := pix15 a (by omega) b (by omega)
    rcases bit_01 g (pix a b) with e | e
    · rw [e, Nat.zero_mul]
      exact ⟨fun _ => fin 0 (by rw [e]; rfl), fun c => absurd rfl c⟩
    · rw [e, Nat.one_mul]
      exact c_eq (b := 0) (by omega) (by omega) (fun q => by omega) (fun _ => fin _ (by rw [if_pos e]))
/-- the sums of odds, of a mean -/
def osum (M u v s t n G msk w sd k : Nat) : Nat := sm (fun g => if (if sd = 0 then thg n msk G w ≤ thg n msk g w else thg n msk g w ≤ thg n msk G w) then wtf M u v s t n G g else 0) k
def msum (M u v s t n G msk w k : Nat) : Nat := sm (fun g => wtf M u v s t n G g * thg n msk g w) k
def kod (M t n kn w : Nat) : Nat := if w = 0 ∨ w = 7 then kpr M t n kn else max (kpr M t n kn) (2 ^ (n * (n - 1) / 2))
theorem kod_le {M t n kn w : Nat} (hn : n ≤ 6) (hkn : kn ≤ 32768) : kod M t n kn w ≤ 32768 ∧ kpr M t n kn ≤ kod M t n kn w ∧ (w ≠ 0 → w ≠ 7 → 2 ^ (n * (n - 1) / 2) ≤ kod M t n kn w) := by
  have := two_lt hn
  obtain ⟨k1, k2, k3⟩ := kpr_le (M := M) (t := t) hn hkn
  unfold kod
  split
  · rename_i c; exact ⟨k1, Nat.le_refl _, fun a b => by omega⟩
  · exact ⟨by omega, by omega, fun _ _ => by omega⟩
/-- prepare, then room for the thing: the budget of both -/
theorem s_prep2 {M u v s t n G msk kn mC mS : Nat} {wm wo wn : Int32} {f_be f_bt : Nat → Int64} {f_dg f_tw f_tr f_lo f_hi f_st f_ke : Nat → Int32} {w : Nat} {post : Int32 → Int32 → Int32 → (Nat → Int64) → (Nat → Int64) → (Nat → Int32) → Nat → (Nat → Int32) → Prop} (hT : TB f_tw f_tr f_lo f_hi f_st) (hM : MP M u v s t n G) (hm : msk < 32768) (hkn : kn ≤ 32768) (hK : KE kn f_ke) (hw : w < 8) (hb : kn < kod M t n kn w → 1 ≤ mC ∧ 2 ^ (n * (n - 1) / 2) ≤ mS)
    (h : ∀ be bt dg ke, PR M u v s t n G be bt dg → KE (kod M t n kn w) ke → post (nI M) (nI G) (nI n) be bt dg (kod M t n kn w) ke) : ∃ c1 s1 : Nat, 0 + c1 ≤ mC ∧ 0 + s1 ≤ mS ∧ wp_X5_prepare (nI M) (nI G) (nI n) (nI u) (nI v) (nI s) (nI t) f_st wm wo wn f_be f_bt f_dg kn f_ke c1 s1 (fun a b c be bt dg k f => ∃ c2 s2 : Nat, (0 + c1) + c2 ≤ mC ∧ (0 + s1) + s2 ≤ mS ∧ wp_X3_makeRoom (nI w) (nI (2 ^ (n * (n - 1) / 2))) k f c2 s2 (fun k' f' => post a b c be bt dg k' f')) := by
  have h6 := hM.2.2.2.2.2.1
  have ht := two_lt h6
  obtain ⟨k1, k2, k3⟩ := kpr_le (M := M) (t := t) h6 hkn
  obtain ⟨o1, o2, o3⟩ := kod_le (M := M) (t := t) (w := w) h6 hkn
  have ek : (if w = 0 ∨ w = 7 then kpr M t n kn else max (kpr M t n kn) (2 ^ (n * (n - 1) / 2))) = kod M t n kn w := rfl
  by_cases c : kn < kpr M t n kn
  · obtain ⟨b1, b2⟩ := hb (by omega)
    refine ⟨1, 2 ^ (n * (n - 1) / 2), by omega, by omega, s_prepare hM hT.2.2.1 hkn hK (fun _ => ⟨by omega, by omega⟩) (fun be bt dg ke hR hK' => ⟨0, 0, by omega, by omega, s_makeRoom hw ht k1 hK' (fun _ _ q => ?_) (fun f' hf' => ?_)⟩)⟩
    · unfold kpr at c q
      split at c
      · rename_i z; rw [if_pos z] at q; omega
      · omega
    · rw [ek] at hf' ⊢; exact h _ _ _ _ hR hf'
  · by_cases c2 : kn < kod M t n kn w
    · obtain ⟨b1, b2⟩ := hb c2
      refine ⟨0, 0, by omega, by omega, s_prepare hM hT.2.2.1 hkn hK (fun q => by omega) (fun be bt dg ke hR hK' => ⟨1, 2 ^ (n * (n - 1) / 2), by omega, by omega, s_makeRoom hw ht k1 hK' (fun _ _ _ => ⟨by omega, by omega⟩) (fun f' hf' => ?_)⟩)⟩
      rw [ek] at hf' ⊢; exact h _ _ _ _ hR hf'
    · refine ⟨0, 0, by omega, by omega, s_prepare hM hT.2.2.1 hkn hK (fun q => by omega) (fun be bt dg ke hR hK' => ⟨0, 0, by omega, by omega, s_makeRoom hw ht k1 hK' (fun q1 q2 q => by have := o3 q1 q2; omega) (fun f' hf' => ?_)⟩)⟩
      rw [ek] at hf' ⊢; exact h _ _ _ _ hR hf'
theorem s_mean6 {M u v s t n G msk kn mC mS : Nat} {wm wo wn : Int32} {f_be f_bt : Nat → Int64} {f_dg f_tw f_tr f_lo f_hi f_st f_ke : Nat → Int32} {w pt : Nat} {post : Int64 → Int32 → Int32 → Int32 → (Nat → Int64) → (Nat → Int64) → (Nat → Int32) → Nat → (Nat → Int32) → Prop} (hT : TB f_tw f_tr f_lo f_hi f_st) (hM : MP M u v s t n G) (hm : msk < 32768) (hkn : kn ≤ 32768) (hK : KE kn f_ke) (h1 : MQ1 v s t) (hw : w < 8) (hpt : pt < 2) (hb : kn < kod M t n kn w → 1 ≤ mC ∧ 2 ^ (n * (n - 1) / 2) ≤ mS)
    (h : ∀ f_be' f_bt' f_dg' f_ke', KE (kod M t n kn w) f_ke' → post (lN ((if pt = 0 then msum M u v s t n G msk w (2 ^ (n * (n - 1) / 2)) else sm (wtf M u v s t n G) (2 ^ (n * (n - 1) / 2))) / Nat.gcd (msum M u v s t n G msk w (2 ^ (n * (n - 1) / 2))) (sm (wtf M u v s t n G) (2 ^ (n * (n - 1) / 2))))) (nI M) (nI G) (nI n) f_be' f_bt' f_dg' (kod M t n kn w) f_ke') : wp_X6_mean (nI M) (nI w) (nI pt) (nI n) (nI (2 ^ (n * (n - 1) / 2))) (nI G) (nI u) (nI v) (nI s) (nI t) (nI msk) f_tw f_tr f_lo f_hi f_st wm wo wn f_be f_bt f_dg kn f_ke mC mS post := by
  have h6 := hM.2.2.2.2.2.1
  have ht := two_lt h6
  have hp := p15
  have tl := tot_lt hM
  have tp := tot_pos hM h1
  obtain ⟨k1, k2, k3⟩ := kpr_le (M := M) (t := t) h6 hkn
  obtain ⟨o1, o2, o3⟩ := kod_le (M := M) (t := t) (w := w) h6 hkn
  have ml : msum M u v s t n G msk w (2 ^ (n * (n - 1) / 2)) ≤ 60 * sm (wtf M u v s t n G) (2 ^ (n * (n - 1) / 2)) := by
    rw [← sm_mul]
    refine sm_sub (fun g => ?_)
    rw [Nat.mul_comm]
    exact Nat.mul_le_mul_right _ (thg_lt n msk g w h6)
  refine s_isModel6 hM.1 (yes1 (s_isThing6 hw (yes1 (s_isSide6 hpt (yes1 (s_prep2 hT hM hm hkn hK hw hb (fun be bt dg ke hR hK' => ?_)))))))
  refine pk_loop (σ := Nat → Int32) (fun k g f => b_X6_mean_62 (nI n) (nI (2 ^ (n * (n - 1) / 2))) (nI G) (nI u) (nI v) (nI s) (nI t) (nI msk) f_tw f_tr f_lo f_hi f_st mC mS post k (nI w) (nI pt) (lN (msum M u v s t n G msk w g)) (lN (sm (wtf M u v s t n G) g)) (nI g) (nI M) (nI G) (nI n) be bt dg (kod M t n kn w) f) (fun _ f => KE (kod M t n kn w) f) (2 ^ (n * (n - 1) / 2)) 0 ke (Nat.zero_le _) hK' ?_ ?_
  · intro k f hf
    exact c_le (by omega) (by omega) (fun _ => s_tell (by omega) (by omega) (by omega) hpt (h _ _ _ f hf)) (fun q => by omega)
  · intro k g f hg hf ih
    have wl := wtf_lt hM (g := g) hg
    have thl := thg_lt n msk g w h6
    refine c_le (by omega) (by omega) (fun q => by omega) (fun _ => s_of hT hM hR hg hm (by omega) (fun a b => by have := k3 a b; omega) hf (fun f' hf' => ?_))
    rw [lg0 (by omega)]
    refine ⟨fun c => ?_, fun c => s_look hT (by omega) hw h6 hg hm (by have := o3; by_cases q0 : w = 0; exact Or.inl q0; by_cases q7 : w = 7; exact Or.inr (Or.inl q7); have := o3 q0 q7; exact Or.inr (Or.inr (by omega))) hf' (fun f2 hf2 => ?_)⟩
    · show b_X6_mean_62 (nI n) (nI (2 ^ (n * (n - 1) / 2))) (nI G) (nI u) (nI v) (nI s) (nI t) (nI msk) f_tw f_tr f_lo f_hi f_st mC mS post k (nI w) (nI pt) (lN (msum M u v s t n G msk w g)) (lN (sm (wtf M u v s t n G) g)) (nI g + 1) (nI M) (nI G) (nI n) be bt dg (kod M t n kn w) f'
      have i := ih f' hf'
      have e1 : msum M u v s t n G msk w (g + 1) = msum M u v s t n G msk w g := by show msum M u v s t n G msk w g + wtf M u v s t n G g * thg n msk g w = _; rw [c, Nat.zero_mul]; rfl
      have e2 : sm (wtf M u v s t n G) (g + 1) = sm (wtf M u v s t n G) g := by show sm (wtf M u v s t n G) g + wtf M u v s t n G g = _; rw [c]; rfl
      rw [nI_1]
      try dsimp only at i
      rw [e1, e2] at i
      exact i
    · show b_X6_mean_62 (nI n) (nI (2 ^ (n * (n - 1) / 2))) (nI G) (nI u) (nI v) (nI s) (nI t) (nI msk) f_tw f_tr f_lo f_hi f_st mC mS post k (nI w) (nI pt) (lN (msum M u v s t n G msk w g) + lN (wtf M u v s t n G g) * (nI (thg n msk g w)).toInt64) (lN (sm (wtf M u v s t n G) g) + lN (wtf M u v s t n G g)) (nI g + 1) (nI M) (nI G) (nI n) be bt dg (kod M t n kn w) f2
      rw [nI_l (by omega), lN_mul, lN_add, lN_add, nI_1]
      exact ih f2 hf2
theorem s_odds6 {M u v s t n G msk kn mC mS : Nat} {wm wo wn : Int32} {f_be f_bt : Nat → Int64} {f_dg f_tw f_tr f_lo f_hi f_st f_ke : Nat → Int32} {w sd pt : Nat} {post : Int64 → Int32 → Int32 → Int32 → (Nat → Int64) → (Nat → Int64) → (Nat → Int32) → Nat → (Nat → Int32) → Prop} (hT : TB f_tw f_tr f_lo f_hi f_st) (hM : MP M u v s t n G) (hm : msk < 32768) (hkn : kn ≤ 32768) (hK : KE kn f_ke) (h1 : MQ1 v s t) (hw : w < 8) (hsd : sd < 2) (hpt : pt < 2) (hb : kn < kod M t n kn w → 1 ≤ mC ∧ 2 ^ (n * (n - 1) / 2) ≤ mS)
    (h : ∀ f_be' f_bt' f_dg' f_ke', KE (kod M t n kn w) f_ke' → post (lN ((if pt = 0 then osum M u v s t n G msk w sd (2 ^ (n * (n - 1) / 2)) else sm (wtf M u v s t n G) (2 ^ (n * (n - 1) / 2))) / Nat.gcd (osum M u v s t n G msk w sd (2 ^ (n * (n - 1) / 2))) (sm (wtf M u v s t n G) (2 ^ (n * (n - 1) / 2))))) (nI M) (nI G) (nI n) f_be' f_bt' f_dg' (kod M t n kn w) f_ke') : wp_X6_odds (nI M) (nI w) (nI sd) (nI pt) (nI n) (nI (2 ^ (n * (n - 1) / 2))) (nI G) (nI u) (nI v) (nI s) (nI t) (nI msk) f_tw f_tr f_lo f_hi f_st wm wo wn f_be f_bt f_dg kn f_ke mC mS post := by
  have h6 := hM.2.2.2.2.2.1
  have ht := two_lt h6
  have hp := p15
  have tl := tot_lt hM
  have tp := tot_pos hM h1
  obtain ⟨k1, k2, k3⟩ := kpr_le (M := M) (t := t) h6 hkn
  obtain ⟨o1, o2, o3⟩ := kod_le (M := M) (t := t) (w := w) h6 hkn
  have ol : osum M u v s t n G msk w sd (2 ^ (n * (n - 1) / 2)) ≤ sm (wtf M u v s t n G) (2 ^ (n * (n - 1) / 2)) := sm_sub (fun g => if_le)
  have lk : ∀ g, gr n g → w = 0 ∨ w = 7 ∨ g < kod M t n kn w := by
    intro g hg
    by_cases q0 : w = 0
    · exact Or.inl q0
    · by_cases q7 : w = 7
      · exact Or.inr (Or.inl q7)
      · have := o3 q0 q7
        exact Or.inr (Or.inr (Nat.lt_of_lt_of_le hg this))
  have tG := thg_lt n msk G w h6
  refine s_isModel6 hM.1 (yes1 (s_isThing6 hw (yes1 (s_isSide6 hsd (yes1 (s_isSide6 hpt (yes1 (s_prep2 hT hM hm hkn hK hw hb (fun be bt dg ke hR hK' => s_look hT (by omega) hw h6 hM.2.2.2.2.2.2 hm (lk G hM.2.2.2.2.2.2) hK' (fun ke1 hK1 => ?_))))))))))
  refine pk_loop (σ := Nat → Int32) (fun k g f => b_X6_odds_88 (nI n) (nI (2 ^ (n * (n - 1) / 2))) (nI G) (nI u) (nI v) (nI s) (nI t) (nI msk) f_tw f_tr f_lo f_hi f_st mC mS post k (nI w) (nI sd) (nI pt) (nI (thg n msk G w)) (lN (osum M u v s t n G msk w sd g)) (lN (sm (wtf M u v s t n G) g)) (nI g) (nI M) (nI G) (nI n) be bt dg (kod M t n kn w) f) (fun _ f => KE (kod M t n kn w) f) (2 ^ (n * (n - 1) / 2)) 0 ke1 (Nat.zero_le _) hK1 ?_ ?_
  · intro k f hf
    exact c_le (by omega) (by omega) (fun _ => s_tell (by omega) (by omega) (by omega) hpt (h _ _ _ f hf)) (fun q => by omega)
  · intro k g f hg hf ih
    have wl := wtf_lt hM (g := g) hg
    have thl := thg_lt n msk g w h6
    refine c_le (by omega) (by omega) (fun q => by omega) (fun _ => s_of hT hM hR hg hm (by omega) (fun a b => by have := k3 a b; omega) hf (fun f' hf' => ?_))
    rw [lg0 (by omega)]
    refine ⟨fun c => ?_, fun c => s_look hT (by omega) hw h6 hg hm (lk g hg) hf' (fun f2 hf2 => ?_)⟩
    · show b_X6_odds_88 (nI n) (nI (2 ^ (n * (n - 1) / 2))) (nI G) (nI u) (nI v) (nI s) (nI t) (nI msk) f_tw f_tr f_lo f_hi f_st mC mS post k (nI w) (nI sd) (nI pt) (nI (thg n msk G w)) (lN (osum M u v s t n G msk w sd g)) (lN (sm (wtf M u v s t n G) g)) (nI g + 1) (nI M) (nI G) (nI n) be bt dg (kod M t n kn w) f'
      have i := ih f' hf'
      have e1 : osum M u v s t n G msk w sd (g + 1) = osum M u v s t n G msk w sd g := by
        show osum M u v s t n G msk w sd g + (if (if sd = 0 then thg n msk G w ≤ thg n msk g w else thg n msk g w ≤ thg n msk G w) then wtf M u v s t n G g else 0) = _
        rw [c]
        simp
      have e2 : sm (wtf M u v s t n G) (g + 1) = sm (wtf M u v s t n G) g := by show sm (wtf M u v s t n G) g + wtf M u v s t n G g = _; rw [c]; rfl
      rw [nI_1]
      try dsimp only at i
      rw [e1, e2] at i
      exact i
    · have fin : ∀ x, (if (if sd = 0 then thg n msk G w ≤ thg n msk g w else thg n msk g w ≤ thg n msk G w) then wtf M u v s t n G g else 0) = x → b_X6_odds_88 (nI n) (nI (2 ^ (n * (n - 1) / 2))) (nI G) (nI u) (nI v) (nI s) (nI t) (nI msk) f_tw f_tr f_lo f_hi f_st mC mS post k (nI w) (nI sd) (nI pt) (nI (thg n msk G w)) (lN (osum M u v s t n G msk w sd g) + lN x) (lN (sm (wtf M u v s t n G) g) + lN (wtf M u v s t n G g)) (nI g + 1) (nI M) (nI G) (nI n) be bt dg (kod M t n kn w) f2 := by
        intro x hx
        subst hx
        rw [lN_add, lN_add, nI_1]
        exact ih f2 hf2
      refine c_eq (b := 0) (by omega) (by omega) (fun q => c_lt (by omega) (by omega) (fun q2 => fin 0 ?_) (fun q2 => fin _ ?_)) (fun q => c_lt (by omega) (by omega) (fun q2 => fin 0 ?_) (fun q2 => fin _ ?_))
      · rw [if_neg]; rw [if_pos q]; omega
      · rw [if_pos]; rw [if_pos q]; exact q2
      · rw [if_neg]; rw [if_neg q]; omega
      · rw [if_pos]; rw [if_neg q]; exact q2
