/-! the best way into blocks: a fold over all ways, first node first -/
def us (x : Nat → Nat) : Nat → Nat
  | 0 => 0
  | i + 1 => if x i = us x i then us x i + 1 else us x i
theorem us_ext {x y : Nat → Nat} : ∀ i, (∀ a, a < i → x a = y a) → us x i = us y i := by
  intro i
  induction i with
  | zero => intro _; rfl
  | succ i ih =>
    intro h
    simp only [us]
    rw [ih (fun a ha => h a (by omega)), h i (by omega)]
theorem us_add (x : Nat → Nat) (i : Nat) : ∀ m, us x (i + m) ≤ us x i + m := by
  intro m
  induction m with
  | zero => exact Nat.le_refl _
  | succ m ih =>
    have : us x (i + (m + 1)) ≤ us x (i + m) + 1 := by
      show us x ((i + m) + 1) ≤ _
      simp only [us]
      split <;> omega
    omega
abbrev rg (x : Nat → Nat) (i : Nat) : Prop := ∀ a, a < i → x a ≤ us x a
abbrev vl (k n : Nat) (x : Nat → Nat) : Prop := rg x n ∧ us x n = k
theorem rg_ext {x y : Nat → Nat} {i : Nat} (h : ∀ a, a < i → x a = y a) (r : rg x i) : rg y i := fun a ha => by
  rw [← h a ha, ← us_ext (x := x) (y := y) a (fun b hb => h b (by omega))]
  exact r a ha
theorem vl_ext {k n : Nat} {x y : Nat → Nat} (h : ∀ a, a < n → x a = y a) : vl k n x ↔ vl k n y :=
  ⟨fun v => ⟨rg_ext h v.1, by rw [← us_ext n h]; exact v.2⟩, fun v => ⟨rg_ext (fun a ha => (h a ha).symm) v.1, by rw [us_ext n h]; exact v.2⟩⟩
theorem wc_ext {n g : Nat} {x y : Nat → Nat} (hn : n ≤ 6) (h : ∀ a, a < n → x a = y a) : wc n g x = wc n g y := by
  have ce : ∀ p, p < n * (n - 1) / 2 → cel x p = cel y p := fun p hp => by
    obtain ⟨a, b⟩ := hi_lt n (by omega) p hp
    obtain ⟨c, d, e⟩ := lohi p b
    unfold cel
    rw [h (lo p) (by omega), h (hi p) a]
  refine pr_congr 36 (fun c _ => ?_)
  unfold wv
  rw [show ro x c (n * (n - 1) / 2) = ro y c (n * (n - 1) / 2) from sm_congr (fun p hp => by rw [ce p hp])]
  rw [show he g x c (n * (n - 1) / 2) = he g y c (n * (n - 1) / 2) from sm_congr (fun p hp => by rw [ce p hp])]
def cut (n : Nat) (x : Nat → Nat) : Nat → Nat := fun a => if a < n then x a else 0
def sp (k n g : Nat) (st : Nat × (Nat → Nat)) (x : Nat → Nat) : Nat × (Nat → Nat) := if vl k n x then (if st.1 = 0 ∨ wc n g x < st.1 then (wc n g x, cut n x) else st) else st
theorem sp_ext {k n g : Nat} (hn : n ≤ 6) (st : Nat × (Nat → Nat)) {x y : Nat → Nat} (h : ∀ a, a < n → x a = y a) : sp k n g st x = sp k n g st y := by
  have c : cut n x = cut n y := funext (fun a => by
    unfold cut
    by_cases q : a < n
    · rw [if_pos q, if_pos q, h a q]
    · rw [if_neg q, if_neg q])
  unfold sp
  rw [wc_ext hn h, c]
  by_cases v : vl k n x
  · rw [if_pos v, if_pos ((vl_ext h).mp v)]
  · rw [if_neg v, if_neg (fun w => v ((vl_ext h).mpr w))]
def fo {S : Type} (f : S → Nat → S) (s : S) : Nat → S
  | 0 => s
  | m + 1 => f (fo f s m) m
theorem fo_add {S : Type} (f : S → Nat → S) (s : S) (a : Nat) : ∀ m, fo f s (a + m) = fo (fun t c => f t (a + c)) (fo f s a) m := by
  intro m
  induction m with
  | zero => rfl
  | succ m ih => show f (fo f s (a + m)) (a + m) = _; rw [ih]; rfl
theorem fo_mul {S : Type} (f : S → Nat → S) (s : S) (K : Nat) : ∀ k, fo f s (k * K) = fo (fun t d => fo (fun t c => f t (d * K + c)) t K) s k := by
  intro k
  induction k with
  | zero => rw [Nat.zero_mul]; rfl
  | succ k ih => rw [Nat.succ_mul, fo_add, ih]; rfl
theorem fo_congr {S : Type} {f h : S → Nat → S} (s : S) : ∀ m, (∀ t c, c < m → f t c = h t c) → fo f s m = fo h s m := by
  intro m
  induction m with
  | zero => intro _; rfl
  | succ m ih => intro H; show f (fo f s m) m = h (fo h s m) m; rw [ih (fun t c hc => H t c (by omega)), H _ m (by omega)]
theorem fo_skip {S : Type} {f : S → Nat → S} (s : S) (e : Nat) : ∀ m, (∀ t c, e ≤ c → f t c = t) → fo f s (e + m) = fo f s e := by
  intro m
  induction m with
  | zero => intro _; rfl
  | succ m ih => intro H; show f (fo f s (e + m)) (e + m) = _; rw [ih H, H _ _ (by omega)]
def FF (k n g : Nat) : Nat → Nat → (Nat → Nat) → (Nat × (Nat → Nat)) → (Nat × (Nat → Nat))
  | 0, _, x, st => sp k n g st x
  | m + 1, i, x, st => fo (fun t d => FF k n g m (i + 1) (un x i d) t) st k
theorem dg_lo {k m e d c : Nat} (hk : 1 ≤ k) (h : e < m) : (d * k ^ m + c) / k ^ e % k = c / k ^ e % k := by
  obtain ⟨j, rfl⟩ : ∃ j, m = e + (j + 1) := ⟨m - e - 1, by omega⟩
  have : d * k ^ (e + (j + 1)) + c = c + k ^ e * (k * (d * k ^ j)) := by
    rw [Nat.pow_add, Nat.pow_succ]; grind
  rw [this, Nat.add_mul_div_left _ _ (Nat.pow_pos (by omega)), Nat.add_mul_mod_self_left]
theorem dg_hi {k m d c : Nat} (hk : 1 ≤ k) (hd : d < k) (hc : c < k ^ m) : (d * k ^ m + c) / k ^ m % k = d := by
  rw [Nat.add_comm, Nat.mul_comm, Nat.add_mul_div_left _ _ (Nat.pow_pos (by omega)), Nat.div_eq_of_lt hc, Nat.zero_add, Nat.mod_eq_of_lt hd]
theorem FF_codes {k n g : Nat} (hk : 1 ≤ k) (hn : n ≤ 6) : ∀ m i x st, i + m = n → FF k n g m i x st = fo (fun t c => sp k n g t (fun a => if a < i then x a else c / k ^ (n - 1 - a) % k)) st (k ^ m) := by
  intro m
  induction m with
  | zero =>
    intro i x st hi
    show sp k n g st x = sp k n g st _
    exact sp_ext hn st (fun a ha => by rw [if_pos (by omega)])
  | succ m ih =>
    intro i x st hi
    rw [Nat.pow_succ, Nat.mul_comm, fo_mul]
    show fo (fun t d => FF k n g m (i + 1) (un x i d) t) st k = _
    refine fo_congr st k (fun t d hd => ?_)
    rw [ih (i + 1) _ t (by omega)]
    refine fo_congr t _ (fun t c hc => ?_)
    refine sp_ext hn t (fun a ha => ?_)
    by_cases q : a < i
    · rw [if_pos (by omega), if_pos q, un_n (by omega)]
    · rw [if_neg q]
      by_cases e : a = i
      · subst e
        rw [if_pos (by omega), un_s, show n - 1 - a = m by omega, dg_hi hk hd hc]
      · rw [if_neg (by omega), dg_lo hk (by omega)]
theorem FF_dead {k n g : Nat} : ∀ m i x st, i + m = n → (∀ y, (∀ a, a < i → y a = x a) → ¬ vl k n y) → FF k n g m i x st = st := by
  intro m
  induction m with
  | zero =>
    intro i x st hi h
    exact if_neg (h x (fun _ _ => rfl))
  | succ m ih =>
    intro i x st hi h
    show fo (fun t d => FF k n g m (i + 1) (un x i d) t) st k = st
    have := fo_skip (f := fun t d => FF k n g m (i + 1) (un x i d) t) st 0 k (fun t d _ => ih (i + 1) _ t (by omega) (fun y hy => h y (fun a ha => by rw [hy a (by omega), un_n (by omega)])))
    rw [Nat.zero_add] at this
    exact this
theorem sp_pos {k n g : Nat} (hn : n ≤ 6) (st : Nat × (Nat → Nat)) (x : Nat → Nat) : (st.1 ≠ 0 → (sp k n g st x).1 ≠ 0) ∧ (vl k n x → (sp k n g st x).1 ≠ 0) ∧ (st.1 ≤ 32768 → (sp k n g st x).1 ≤ 32768) := by
  have w := wc_b (n := n) (g := g) (x := x) hn
  unfold sp
  by_cases v : vl k n x
  · rw [if_pos v]
    by_cases q : st.1 = 0 ∨ wc n g x < st.1
    · rw [if_pos q]
      exact ⟨fun _ => by show wc n g x ≠ 0; omega, fun _ => by show wc n g x ≠ 0; omega, fun _ => w.2⟩
    · rw [if_neg q]
      exact ⟨id, fun _ => by omega, id⟩
  · rw [if_neg v]
    exact ⟨id, fun q => absurd q v, id⟩
theorem fo_keep {S : Type} (Q : S → Prop) {f : S → Nat → S} : ∀ (m : Nat) (s : S), (∀ t c, Q t → Q (f t c)) → Q s → Q (fo f s m) := by
  intro m
  induction m with
  | zero => intro s _ h; exact h
  | succ m ih => intro s H h; exact H _ _ (ih s H h)
theorem FF_keep {k n g : Nat} (hn : n ≤ 6) : ∀ m i x st, (st.1 ≠ 0 → (FF k n g m i x st).1 ≠ 0) ∧ (st.1 ≤ 32768 → (FF k n g m i x st).1 ≤ 32768) := by
  intro m
  induction m with
  | zero => intro i x st; exact ⟨(sp_pos hn st x).1, (sp_pos hn st x).2.2⟩
  | succ m ih =>
    intro i x st
    exact ⟨fun h => fo_keep (fun t => t.1 ≠ 0) k st (fun t c q => (ih (i + 1) (un x i c) t).1 q) h, fun h => fo_keep (fun t => t.1 ≤ 32768) k st (fun t c q => (ih (i + 1) (un x i c) t).2 q) h⟩
theorem FF_pos {k n g : Nat} (hn : n ≤ 6) {y : Nat → Nat} (hy : ∀ a, a < n → y a < k) (hv : vl k n y) : ∀ m i x st, i + m = n → (∀ a, a < i → y a = x a) → (FF k n g m i x st).1 ≠ 0 := by
  intro m
  induction m with
  | zero => intro i x st hi h; exact (sp_pos hn st x).2.1 ((vl_ext (fun a ha => h a (by omega))).mp hv)
  | succ m ih =>
    intro i x st hi h
    have yi := hy i (by omega)
    show (fo (fun t d => FF k n g m (i + 1) (un x i d) t) st k).1 ≠ 0
    obtain ⟨r, hr⟩ : ∃ r, k = (y i + 1) + r := ⟨k - (y i + 1), by omega⟩
    rw [hr, fo_add, ← hr]
    refine fo_keep (fun t => t.1 ≠ 0) r _ (fun t c q => (FF_keep hn m (i + 1) _ t).1 q) ?_
    show (FF k n g m (i + 1) (un x i (y i)) _).1 ≠ 0
    refine ih (i + 1) _ _ (by omega) (fun a ha => ?_)
    by_cases e : a = i
    · subst e; exact (un_s _ _ _).symm
    · rw [un_n e]; exact h a (by omega)
theorem vl_ex {k n : Nat} (hk : 1 ≤ k) (hkn : k ≤ n) : ∃ y : Nat → Nat, (∀ a, a < n → y a < k) ∧ vl k n y := by
  have u : ∀ i, us (fun a => if a < k then a else k - 1) i = if i < k then i else k := by
    intro i
    induction i with
    | zero => rw [if_pos (by omega)]; rfl
    | succ i ih =>
      simp only [us]
      rw [ih]
      repeat' split
      all_goals omega
  refine ⟨fun a => if a < k then a else k - 1, fun a _ => ?_, fun a _ => ?_, ?_⟩
  · show (if a < k then a else k - 1) < k
    split <;> omega
  · rw [u a]
    show (if a < k then a else k - 1) ≤ _
    split <;> omega
  · rw [u n, if_neg (by omega)]
/-- the best way and its cost -/
def BB (k n g : Nat) : Nat × (Nat → Nat) := FF k n g n 0 (fun _ => 0) (0, fun _ => 0)
theorem BB_b {k n g : Nat} (hk : 1 ≤ k) (hkn : k ≤ n) (hn : n ≤ 6) : (BB k n g).1 ≠ 0 ∧ (BB k n g).1 ≤ 32768 := by
  obtain ⟨y, hy, hv⟩ := vl_ex hk hkn
  exact ⟨FF_pos hn hy hv n 0 _ _ (by omega) (fun a ha => by omega), (FF_keep hn n 0 _ _).2 (by show 0 ≤ 32768; omega)⟩
/-! the class's search -/
def MC (n : Nat) (st : Nat × (Nat → Nat)) (f_bs : Nat → Int32) (wl : Int32) : Prop := st.1 ≤ 32768 ∧ wl = nI (if st.1 = 0 then 1000000 else st.1) ∧ (st.1 ≠ 0 → ∀ a, a < n → f_bs a = nI (st.2 a))
theorem s_place {k n g : Nat} {f_lo f_hi : Nat → Int32} (hk : 1 ≤ k) (hkn : k ≤ n) (hn : n ≤ 6) (hg : g < 32768) (hlo : ∀ p, p < 15 → f_lo p = nI (lo p)) (hhi : ∀ p, p < 15 → f_hi p = nI (hi p)) : ∀ m D i x st (f_ti f_bs f_ro f_he : Nat → Int32) (wl : Int32) (post : (Nat → Int32) → (Nat → Int32) → (Nat → Int32) → (Nat → Int32) → Int32 → Prop), m ≤ D → i + m = n → rg x i → us x i ≤ k → (∀ a, a < i → x a < k) → (∀ a, a < i → f_ti a = nI (x a)) → MC n st f_bs wl →
    (∀ ft fb fr fh w, (∀ a, a < i → ft a = nI (x a)) → MC n (FF k n g m i x st) fb w → post ft fb fr fh w) → wp_X4_place (D + 1) (nI i) (nI (us x i)) (nI g) (nI n) (nI k) f_lo f_hi f_ti f_bs f_ro f_he wl post := by
  intro m
  induction m with
  | zero =>
    intro D i x st f_ti f_bs f_ro f_he wl post hD hi hr hu hx ht hM h
    obtain rfl : i = n := by omega
    unfold wp_X4_place
    rw [nI_add, pk_sub (by omega), show us x i + i - i = us x i by omega]
    refine c_le (by omega) (by omega) (fun q => c_lt (by omega) (by omega) (fun q => by omega) (fun _ => ?_)) (fun q => ?_)
    · have v : vl k i x := ⟨hr, by omega⟩
      have w := wc_b (n := i) (g := g) (x := x) hn
      refine s_cost4 hn hg hlo hhi ht (fun a ha => by have := hx a ha; omega) (fun fr fh => ?_)
      obtain ⟨h1, h2, h3⟩ := hM
      rw [h2]
      refine c_le (by split <;> omega) (by omega) (fun q2 => ?_) (fun q2 => ?_)
      · refine h _ _ _ _ _ ht ?_
        have : FF k i g 0 i x st = st := by
          show sp k i g st x = st
          unfold sp
          rw [if_pos v, if_neg]
          split at q2 <;> omega
        rw [this]
        exact ⟨h1, rfl, h3⟩
      · refine ⟨by decide, h _ _ _ _ _ ht ?_⟩
        have : FF k i g 0 i x st = (wc i g x, cut i x) := by
          show sp k i g st x = _
          unfold sp
          rw [if_pos v, if_pos]
          split at q2 <;> omega
        rw [this]
        refine ⟨w.2, ?_, fun _ a ha => ?_⟩
        · show nI (wc i g x) = nI (if wc i g x = 0 then 1000000 else wc i g x)
          rw [if_neg (by omega)]
        · show va_cpy f_ti f_bs 0 0 6 a = nI (cut i x a)
          rw [pk_cpy_in (by omega) (by omega), show 0 + (a - 0) = a by omega, ht a ha]
          unfold cut
          rw [if_pos ha]
    · refine h _ _ _ _ _ ht ?_
      have : FF k i g 0 i x st = st := if_neg (fun v => by have := v.2; omega)
      rw [this]
      exact hM
  | succ m ih =>
    intro D i x st f_ti f_bs f_ro f_he wl post hD hi hr hu hx ht hM h
    obtain ⟨E, rfl⟩ : ∃ E, D = E + 1 := ⟨D - 1, by omega⟩
    have uu := us_add x 0 i
    rw [Nat.zero_add] at uu
    have u0 : us x 0 = 0 := rfl
    unfold wp_X4_place
    rw [nI_add, pk_sub (by omega)]
    refine c_le (by omega) (by omega) (fun q => c_lt (by omega) (by omega) (fun _ => ?_) (fun q => by omega)) (fun q => ?_)
    · -- the loop
      have he : ∃ e, e ≤ k ∧ (us x i < e ∨ k ≤ e) ∧ e ≤ us x i + 1 := by
        by_cases c : us x i < k
        · exact ⟨us x i + 1, by omega, by omega, by omega⟩
        · exact ⟨k, by omega, by omega, by omega⟩
      obtain ⟨e, e1, e2, e3⟩ := he
      have fin : FF k n g (m + 1) i x st = fo (fun t d => FF k n g m (i + 1) (un x i d) t) st e := by
        show fo (fun t d => FF k n g m (i + 1) (un x i d) t) st k = _
        by_cases c : e = k
        · rw [c]
        · obtain ⟨r, hr2⟩ : ∃ r, k = e + r := ⟨k - e, by omega⟩
          have := fo_skip (f := fun t d => FF k n g m (i + 1) (un x i d) t) st e r (fun t d hd => FF_dead m (i + 1) _ t (by omega) (fun y hy v => by
            have y1 := v.1 i (by omega)
            have y2 := hy i (by omega)
            rw [un_s] at y2
            rw [us_ext (x := y) (y := x) i (fun a ha => by rw [hy a (by omega), un_n (by omega)])] at y1
            omega))
          rw [← hr2] at this
          exact this
      rw [fin] at h
      have L := lp0 (fun l d => ∀ (f_ti f_bs f_ro f_he : Nat → Int32) (wl : Int32), (∀ a, a < i → f_ti a = nI (x a)) → MC n (fo (fun t d => FF k n g m (i + 1) (un x i d) t) st d) f_bs wl → b_X4_place_31 (nI g) (nI n) (nI k) f_lo f_hi (wp_X4_place (E + 1)) post l (nI i) (nI (us x i)) (nI d) f_ti f_bs f_ro f_he wl) 0 e (by omega) (fun l f_ti f_bs f_ro f_he wl ht hM => c_lt (by omega) (by omega) (fun _ => h _ _ _ _ _ ht hM) (fun _ => c_le (by omega) (by omega) (fun _ => h _ _ _ _ _ ht hM) (fun _ => by omega))) (fun l d h0 hd ih2 f_ti f_bs f_ro f_he wl ht hM => c_lt (by omega) (by omega) (fun q => by omega) (fun _ => c_le (by omega) (by omega) (fun q => by omega) (fun _ => ⟨vp_in_nI (by omega) (by omega), ?_⟩)))
      · obtain ⟨l, H⟩ := L
        exact ⟨l, H f_ti f_bs f_ro f_he wl ht hM⟩
      · have ue : us (un x i d) i = us x i := us_ext i (fun a ha => un_n (by omega))
        have us1 : us (un x i d) (i + 1) = if d = us x i then us x i + 1 else us x i := by
          simp only [us]; rw [ue, un_s]
        have go : us (un x i d) (i + 1) ≤ k → b_X4_place_67 (nI g) (nI n) (nI k) f_lo f_hi (wp_X4_place (E + 1)) post (b_X4_place_31 (nI g) (nI n) (nI k) f_lo f_hi (wp_X4_place (E + 1)) post l) (nI i) (nI (us x i)) (nI d) (nI (us (un x i d) (i + 1))) (nI i + 1) (upd f_ti (nI i).toNatClampNeg (nI d)) f_bs f_ro f_he wl := fun hk2 => by
          unfold b_X4_place_67
          rw [nI_1, nI_clamp (by omega)]
          refine ih E (i + 1) (un x i d) (fo (fun t d => FF k n g m (i + 1) (un x i d) t) st d) _ _ _ _ _ _ (by omega) (by omega) (fun a ha => ?_) hk2 (fun a ha => ?_) (fun a ha => ?_) hM (fun ft fb fr fh w hf hM2 => ?_)
          · by_cases c : a = i
            · subst c; rw [ue, un_s]; omega
            · rw [un_n c, us_ext (x := un x i d) (y := x) a (fun b hb => un_n (by omega))]; exact hr a (by omega)
          · by_cases c : a = i
            · subst c; rw [un_s]; omega
            · rw [un_n c]; exact hx a (by omega)
          · by_cases c : a = i
            · subst c; rw [un_s, pk_us]
            · rw [un_n c, pk_un c]; exact ht a (by omega)
          · rw [nI_1]
            refine ih2 ft fb fr fh w (fun a ha => ?_) hM2
            have := hf a (by omega)
            rw [un_n (by omega)] at this
            exact this
        refine c_eq (by omega) (by omega) (fun c => ?_) (fun c => ?_)
        · rw [us1, if_pos c, ← nI_1] at go
          exact go (by omega)
        · rw [us1, if_neg c] at go
          exact go (by omega)
    · have : FF k n g (m + 1) i x st = st := FF_dead (m + 1) i x st hi (fun y hy v => by
        have a := us_add y i (m + 1)
        rw [hi, us_ext (x := y) (y := x) i hy] at a
        have := v.2
        omega)
      rw [this] at h
      exact h _ _ _ _ _ ht hM
theorem s_blocks6 {k n g : Nat} {f_lo f_hi : Nat → Int32} {wg wk ww wl wf : Int32} {f_ti f_bs f_ro f_he : Nat → Int32} {post : Int32 → Int32 → Int32 → Int32 → Int32 → Int32 → (Nat → Int32) → (Nat → Int32) → (Nat → Int32) → (Nat → Int32) → Prop} (hk : 1 ≤ k) (hkn : k ≤ n) (hn : n ≤ 6) (hg : g < 32768) (hlo : ∀ p, p < 15 → f_lo p = nI (lo p)) (hhi : ∀ p, p < 15 → f_hi p = nI (hi p))
    (h : ∀ wl' ft fb fr fh, (∀ a, a < n → fb a = nI ((BB k n g).2 a)) → post (nI (BB k n g).1) (nI g) (nI n) (nI k) wl' 1 ft fb fr fh) : wp_X6_blocks (nI k) (nI n) (nI g) f_lo f_hi wg wk ww wl wf f_ti f_bs f_ro f_he post := by
  obtain ⟨b1, b2⟩ := BB_b (g := g) hk hkn hn
  refine c_lt (b := 1) (by omega) (by omega) (fun q => by omega) (fun _ => c_le (by omega) (by omega) (fun _ => ?_) (fun q => by omega))
  unfold wp_X4_findBest
  have e : (if (6 : Int32) < nI n then (6 : Int32) else nI n) = nI n := if_neg (fun q => by have := (nI_ltI (a := 6) (b := n) (by omega) (by omega)).mp q; omega)
  rw [e]
  refine s_place hk hkn hn hg hlo hhi n 6 0 (fun _ => 0) (0, fun _ => 0) f_ti f_bs f_ro f_he _ _ hn (by omega) (fun a ha => by omega) (by show 0 ≤ k; omega) (fun a ha => by omega) (fun a ha => by omega) ⟨by show 0 ≤ 32768; omega, rfl, fun q => absurd rfl q⟩ (fun ft fb fr fh w _ hM => ?_)
  obtain ⟨_, h2, h3⟩ := hM
  have h2' : w = nI (BB k n g).1 := by rw [h2]; show nI (if (BB k n g).1 = 0 then 1000000 else (BB k n g).1) = _; rw [if_neg b1]
  rw [h2']
  exact h _ _ _ _ _ (h3 b1)
/-! the reference's -/
theorem m1_eq (x : Int32) : x + (-1) = x - 1 := (Int32.sub_eq_add_neg x 1).symm
theorem s_isWay {k n c : Nat} {f_yy : Nat → Int32} {post : Int32 → (Nat → Int32) → Prop} (hk : 1 ≤ k) (hk6 : k ≤ 6) (hn1 : 1 ≤ n) (hn : n ≤ 6) (hc : c < 2 ^ 31) {x : Nat → Nat} (hx : x = fun a => c / k ^ (n - 1 - a) % k) (h : ∀ f', (∀ a, a < n → f' a = nI (x a)) → post (nI (if vl k n x then 1 else 0)) f') : wp_X7_isWay (nI c) (nI k) (nI n) f_yy post := by
  have xk : ∀ a, x a < k := fun a => by rw [hx]; exact Nat.mod_lt _ (by omega)
  have L := lp0 (fun l t => ∀ f : Nat → Int32, (∀ a, n - t ≤ a → a < n → f a = nI (x a)) → b_X7_isWay_10 (nI n) post l (nI k) (nI (c / k ^ t)) (nI (n - t) - 1) f) 0 n (by omega) (fun l f hf => ⟨fun _ => ?_, fun q => ?_⟩) (fun l t h0 ht ih f hf => ?_)
  · obtain ⟨l, H⟩ := L
    have := H f_yy (fun a h1 h2 => by omega)
    rw [Nat.pow_zero, Nat.div_one] at this
    exact ⟨l, this⟩
  · have f2 : ∀ a, a < n → f a = nI (x a) := fun a ha => hf a (by omega) ha
    have L2 := lp0 (fun l i => ∀ o : Int32, (o = 1 ∧ rg x i ∨ o = 0 ∧ ¬ rg x i) → b_X7_isWay_44 (nI n) post l (nI k) (nI (us x i)) o (nI i) f) 0 n (by omega) (fun l o ho => c_le (by omega) (by omega) (fun _ => ?_) (fun q => by omega)) (fun l i h0 hi ih o ho => c_le (by omega) (by omega) (fun q => by omega) (fun _ => ?_))
    · obtain ⟨l, H⟩ := L2
      exact ⟨l, H 1 (Or.inl ⟨rfl, fun a ha => by omega⟩)⟩
    · have uu := us_add x 0 n
      rw [Nat.zero_add] at uu
      have u0 : us x 0 = 0 := rfl
      have hp := h f f2
      rcases ho with ⟨rfl, r⟩ | ⟨rfl, r⟩
      · refine ⟨fun q => absurd q (by decide), fun _ => c_eq (by omega) (by omega) (fun q => ?_) (fun q => ?_)⟩
        · rw [if_pos ⟨r, q⟩] at hp; exact hp
        · rw [if_neg (fun v => q v.2)] at hp; exact hp
      · refine ⟨fun _ => ?_, fun q => absurd rfl q⟩
        rw [if_neg (fun v => r v.1)] at hp; exact hp
    · have uu := us_add x 0 i
      rw [Nat.zero_add] at uu
      have u0 : us x 0 = 0 := rfl
      have xi := xk i
      have vi : vp_in (nI i) 6 := vp_in_nI (by omega) (by omega)
      have s75 : ∀ o : Int32, (o = 1 ∧ rg x (i + 1) ∨ o = 0 ∧ ¬ rg x (i + 1)) → b_X7_isWay_75 (nI n) post (b_X7_isWay_44 (nI n) post l) (nI k) (nI (us x i)) (nI i) o f := fun o ho => by
        have := ih o ho
        refine ⟨vi, ?_⟩
        rw [nI_clamp (by omega), f2 i hi]
        simp only [us] at this
        refine c_eq (by omega) (by omega) (fun q => ?_) (fun q => ?_)
        · rw [if_pos q, ← nI_1, ← nI_1] at this
          exact this
        · rw [if_neg q, ← nI_1 i] at this
          show b_X7_isWay_44 (nI n) post l (nI k) (nI (us x i) + nI 0) o (nI i + 1) f
          rw [nI_add]
          exact this
      rcases ho with ⟨rfl, r⟩ | ⟨rfl, r⟩
      · refine ⟨fun q => absurd q (by decide), fun _ => ⟨vi, ?_⟩⟩
        rw [nI_clamp (by omega), f2 i hi]
        refine c_lt (by omega) (by omega) (fun q => s75 0 (Or.inr ⟨rfl, fun w => ?_⟩)) (fun q => s75 1 (Or.inl ⟨rfl, fun a ha => ?_⟩))
        · have := w i (by omega); omega
        · by_cases e : a = i
          · subst e; exact q
          · exact r a (by omega)
      · exact ⟨fun _ => s75 0 (Or.inr ⟨rfl, fun w => r (fun a ha => w a (by omega))⟩), fun q => absurd rfl q⟩
  · rw [Nat.sub_self] at q; exact absurd (by decide) q
  · obtain ⟨j, hj⟩ : ∃ j, n - t = j + 1 := ⟨n - t - 1, by omega⟩
    rw [hj, nI_pred]
    have ck : c / k ^ t < 2 ^ 31 := Nat.lt_of_le_of_lt (Nat.div_le_self _ _) hc
    refine ⟨fun q => absurd q (nI_pos (by omega)), fun _ => ⟨nI_ne0 (by omega) (by omega), vp_in_nI (by omega) (by omega), nI_ne0 (by omega) (by omega), ?_⟩⟩
    rw [pk_rem ck (by omega) (by omega), pk_div ck (by omega) (by omega), Nat.div_div_eq_div_mul, nI_clamp (by omega), ← Nat.pow_succ]
    have := ih (upd f j (nI (c / k ^ t % k))) (fun a h1 h2 => by
      by_cases e : a = j
      · subst e
        rw [pk_us, hx, show t = n - 1 - a by omega]
      · rw [pk_un e]; exact hf a (by omega) h2)
    rw [show n - (t + 1) = j by omega] at this
    rw [m1_eq]
    exact this
def dgk (k n c a : Nat) : Nat := c / k ^ (n - 1 - a) % k
theorem BB_codes {k n g : Nat} (hk : 1 ≤ k) (hn : n ≤ 6) : BB k n g = fo (fun t c => sp k n g t (dgk k n c)) (0, fun _ => 0) (k ^ n) := by
  unfold BB
  rw [FF_codes hk hn n 0 _ _ (by omega)]
  refine fo_congr _ _ (fun t c _ => ?_)
  exact sp_ext hn t (fun a ha => by rw [if_neg (by omega)]; rfl)
def MR (n : Nat) (st : Nat × (Nat → Nat)) (f_yb : Nat → Int32) (x3 : Int32) : Prop := st.1 ≤ 32768 ∧ x3 = nI st.1 ∧ (st.1 ≠ 0 → ∀ a, a < n → f_yb a = nI (st.2 a))
theorem kn_le : ∀ n, n < 7 → ∀ k, k < n + 1 → k ^ n ≤ 46656 := by decide +kernel
theorem s_blocks7 {k n g : Nat} {mB : Int32} {f_yb f_yy : Nat → Int32} {post : Int32 → Int32 → (Nat → Int32) → (Nat → Int32) → Prop} (hk : 1 ≤ k) (hkn : k ≤ n) (hn : n ≤ 6) (hg : g < 32768) (h : ∀ fb fy, (∀ a, a < n → fb a = nI ((BB k n g).2 a)) → post (nI (BB k n g).1) (nI k) fb fy) : wp_X7_blocks (nI k) (nI n) (nI g) mB f_yb f_yy post := by
  obtain ⟨b1, b2⟩ := BB_b (g := g) hk hkn hn
  have kn := kn_le n (by omega) k (by omega)
  unfold wp_X7_blocks
  rw [nI_l (by omega), nI_l (by omega)]
  refine s_in (l := 1) (by omega) hk hkn (by omega) (yes1 (s_power7 (by omega) ?_))
  rw [lN_i]
  have L := lp0 (fun l c => ∀ (fb fy : Nat → Int32) (x3 mB : Int32), MR n (fo (fun t c => sp k n g t (dgk k n c)) (0, fun _ => 0) c) fb x3 → b_X7_blocks_32 (nI n) (nI g) post l (nI k) (nI (k ^ n)) x3 (nI c) mB fb fy) 0 (k ^ n) (by omega) (fun l fb fy x3 mB hM => c_le (by omega) (by omega) (fun _ => ?_) (fun q => by omega)) (fun l c h0 hc ih fb fy x3 mB hM => c_le (by omega) (by omega) (fun q => by omega) (fun _ => s_isWay (x := dgk k n c) hk (by omega) (by omega) hn (by omega) rfl (fun f' hf' => ?_)))
  · obtain ⟨l, H⟩ := L
    exact ⟨l, H f_yb f_yy 0 mB ⟨by show 0 ≤ 32768; omega, rfl, fun q => absurd rfl q⟩⟩
  · rw [← BB_codes hk hn] at hM
    rw [hM.2.1]
    exact h _ _ (hM.2.2 b1)
  · have hx : ∀ a, a < n → dgk k n c a < k := fun a _ => Nat.mod_lt _ (by omega)
    revert ih hf' hx
    show (∀ (fb fy : Nat → Int32) (x3 mB : Int32), MR n (sp k n g (fo (fun t c => sp k n g t (dgk k n c)) (0, fun _ => 0) c) (dgk k n c)) fb x3 → b_X7_blocks_32 (nI n) (nI g) post l (nI k) (nI (k ^ n)) x3 (nI (c + 1)) mB fb fy) → _
    revert hM
    generalize fo (fun t c => sp k n g t (dgk k n c)) (0, fun _ => 0) c = st
    generalize dgk k n c = x
    intro hM ih hf' hx
    have w := wc_b (n := n) (g := g) (x := x) hn
    by_cases v : vl k n x
    · rw [if_pos v]
      refine ⟨fun q => absurd q (by decide), fun _ => s_cost7 (by omega) hn hg (by omega) hx hf' ?_⟩
      obtain ⟨h1, h2, h3⟩ := hM
      have keep : ¬ (st.1 = 0 ∨ wc n g x < st.1) → b_X7_blocks_100 (nI n) (nI g) post (b_X7_blocks_32 (nI n) (nI g) post l) (nI k) (nI (k ^ n)) x3 (nI c) mB fb f' := fun q => by
        show b_X7_blocks_32 (nI n) (nI g) post l (nI k) (nI (k ^ n)) x3 (nI c + 1) mB fb f'
        rw [nI_1]
        refine ih _ _ _ _ ?_
        unfold sp
        rw [if_pos v, if_neg q]
        exact ⟨h1, h2, h3⟩
      have take : (st.1 = 0 ∨ wc n g x < st.1) → b_X7_blocks_65 (nI n) (nI g) post (b_X7_blocks_32 (nI n) (nI g) post l) (nI k) (nI (k ^ n)) (nI c) (nI (wc n g x)) mB fb f' := fun q => by
        have L3 := lp0 (fun l3 a => ∀ fb : Nat → Int32, (∀ b, b < a → fb b = nI (x b)) → b_X7_blocks_71 (nI n) (nI g) post (b_X7_blocks_32 (nI n) (nI g) post l) l3 (nI k) (nI (k ^ n)) (nI (wc n g x)) (nI c) (nI a) mB fb f') 0 n (by omega) (fun l3 fb hb => c_le (by omega) (by omega) (fun _ => ?_) (fun q => by omega)) (fun l3 a h0 ha ih3 fb hb => c_le (by omega) (by omega) (fun q => by omega) (fun _ => ⟨vp_in_nI (by omega) (by omega), vp_in_nI (by omega) (by omega), ?_⟩))
        · obtain ⟨l3, H⟩ := L3
          exact ⟨l3, H fb (fun b hb => by omega)⟩
        · show b_X7_blocks_32 (nI n) (nI g) post l (nI k) (nI (k ^ n)) (nI (wc n g x)) (nI c + 1) mB fb f'
          rw [nI_1]
          refine ih _ _ _ _ ?_
          unfold sp
          rw [if_pos v, if_pos q]
          refine ⟨w.2, rfl, fun _ a ha => ?_⟩
          show fb a = nI (cut n x a)
          unfold cut
          rw [if_pos ha]
          exact hb a ha
        · rw [nI_1, nI_clamp (by omega), hf' a ha]
          refine ih3 _ (fun b hb2 => ?_)
          by_cases e : b = a
          · subst e; rw [pk_us]
          · rw [pk_un e]; exact hb b (by omega)
      rw [h2]
      refine c_eq (b := 0) (by omega) (by omega) (fun q => take (Or.inl q)) (fun q => c_le (by omega) (by omega) (fun q2 => ?_) (fun q2 => take (Or.inr q2)))
      rw [← h2]; exact keep (by omega)
    · rw [if_neg v]
      refine ⟨fun _ => ?_, fun q => absurd rfl q⟩
      show b_X7_blocks_32 (nI n) (nI g) post l (nI k) (nI (k ^ n)) x3 (nI c + 1) mB fb f'
      rw [nI_1]
      refine ih _ _ _ _ ?_
      unfold sp
      rw [if_neg v]
      exact hM
