/-! what is out of range, on both sides -/
def out (x : Int32) (l h : Nat) : Prop := x.toInt < (l : Int) ∨ (h : Int) < x.toInt
theorem kd (x : Int32) (l h : Nat) (hh : h < 2 ^ 31) : (∃ j, l ≤ j ∧ j ≤ h ∧ x = nI j) ∨ out x l h := by
  by_cases c : (l : Int) ≤ x.toInt ∧ x.toInt ≤ h
  · left
    refine ⟨x.toInt.toNat, by omega, by omega, ?_⟩
    apply Int32.toInt_inj.mp
    rw [nI_toInt (by omega)]
    omega
  · right
    unfold out
    omega
theorem x_lt {x : Int32} {m : Nat} (hm : m < 2 ^ 31) : x < nI m ↔ x.toInt < (m : Int) := by rw [Int32.lt_iff_toInt_lt, nI_toInt hm]
theorem lt_x {x : Int32} {m : Nat} (hm : m < 2 ^ 31) : nI m < x ↔ (m : Int) < x.toInt := by rw [Int32.lt_iff_toInt_lt, nI_toInt hm]
theorem x_le {x : Int32} {m : Nat} (hm : m < 2 ^ 31) : x ≤ nI m ↔ x.toInt ≤ (m : Int) := by rw [Int32.le_iff_toInt_le, nI_toInt hm]
theorem le_x {x : Int32} {m : Nat} (hm : m < 2 ^ 31) : nI m ≤ x ↔ (m : Int) ≤ x.toInt := by rw [Int32.le_iff_toInt_le, nI_toInt hm]
theorem r_no {x : Int32} {l h : Nat} {post : Int32 → Prop} (hl : l < 2 ^ 31) (hh : h < 2 ^ 31) (ho : out x l h) (hp : post 0) : wp_X7_in x.toInt64 (lN l) (lN h) post := by
  rcases ho with o | o
  · refine ⟨fun _ => hp, fun c => absurd ?_ c⟩
    rw [lg_cmp_lt, Int64.lt_iff_toInt_lt, Int32.toInt_toInt64, pk_lT (by omega)]
    exact o
  · refine ⟨fun _ => hp, fun _ => ⟨fun _ => hp, fun c => absurd ?_ c⟩⟩
    rw [lg_cmp_gt, Int64.lt_iff_toInt_lt, Int32.toInt_toInt64, pk_lT (by omega)]
    exact o
theorem rng0 {x : Int32} {N : Nat} (h1 : 1 ≤ N) (hN : N < 2 ^ 31) {A B : Prop} (ho : out x 0 (N - 1)) (h : A) : (x < 0 → A) ∧ (¬ x < 0 → (nI N ≤ x → A) ∧ (¬ nI N ≤ x → B)) := by
  refine ⟨fun _ => h, fun c => ⟨fun _ => h, fun c2 => ?_⟩⟩
  rcases ho with o | o
  · exact absurd ((x_lt (m := 0) (by omega)).mpr o) c
  · exact absurd ((le_x hN).mpr (by omega)) c2
theorem no0 {A B : Prop} (h : A) : ((0 : Int32) = 0 → A) ∧ (¬ (0 : Int32) = 0 → B) := ⟨fun _ => h, fun q => absurd rfl q⟩
theorem sm1 {r : Int32} {A : Prop} (h : A) : (r = r → A) ∧ (¬ r = r → False) := ⟨fun _ => h, fun q => q rfl⟩
theorem sml {r : Int64} {A : Prop} (h : A) : (lg_cmp r r = 0 → A) ∧ (¬ lg_cmp r r = 0 → False) := ⟨fun _ => h, fun q => q ((lg_cmp_eq r r).mpr rfl)⟩
theorem n_model6 {x : Int32} {post : Int32 → Prop} (ho : out x 0 3) (h : post 0) : wp_X6_isModel x post := rng0 (N := 4) (by omega) (by omega) ho h
theorem n_thing6 {x : Int32} {post : Int32 → Prop} (ho : out x 0 7) (h : post 0) : wp_X6_isThing x post := rng0 (N := 8) (by omega) (by omega) ho h
theorem n_node6 {n : Nat} {x : Int32} {post : Int32 → Prop} (h1 : 1 ≤ n) (hn : n ≤ 6) (ho : out x 0 (n - 1)) (h : post 0) : wp_X6_isNode x (nI n) post := rng0 h1 (by omega) ho h
theorem n_graph6 {N : Nat} {x : Int32} {post : Int32 → Prop} (h1 : 1 ≤ N) (hN : N ≤ 32768) (ho : out x 0 (N - 1)) (h : post 0) : wp_X6_isGraph x (nI N) post := rng0 h1 (by omega) ho h
theorem n_side6 {x : Int32} {post : Int32 → Prop} (ho : out x 0 1) (h : post 0) : wp_X6_isSideOrPart x post := by
  have z0 : (0 : Int32).toInt = 0 := by decide
  have z1 : (1 : Int32).toInt = 1 := by decide
  unfold out at ho
  refine ⟨fun c => ?_, fun _ => ⟨fun c => ?_, fun _ => h⟩⟩
  · subst c; omega
  · subst c; omega
theorem n_model7 {x : Int32} {post : Int32 → Prop} (ho : out x 0 3) (h : post 0) : wp_X7_isModel x post := r_no (l := 0) (h := 3) (by omega) (by omega) ho ⟨rfl, h⟩
theorem n_half7 {x : Int32} {post : Int32 → Prop} (ho : out x 0 1) (h : post 0) : wp_X7_isHalf x post := r_no (l := 0) (h := 1) (by omega) (by omega) ho ⟨rfl, h⟩
theorem n_node7 {n : Nat} {x : Int32} {post : Int32 → Prop} (h1 : 1 ≤ n) (hn : n ≤ 6) (ho : out x 0 (n - 1)) (h : post 0) : wp_X7_isNode x (nI n) post := by
  unfold wp_X7_isNode
  obtain ⟨m, rfl⟩ : ∃ m, n = m + 1 := ⟨n - 1, by omega⟩
  rw [nI_pred, nI_l (by omega)]
  exact r_no (l := 0) (by omega) (by omega) ho ⟨rfl, h⟩
theorem n_number7 {n : Nat} {x : Int32} {post : Int32 → Prop} (hn : n ≤ 6) (ho : out x 0 (2 ^ (n * (n - 1) / 2) - 1)) (h : post 0) : wp_X7_isNumber x (nI (n * (n - 1) / 2)) post := by
  unfold wp_X7_isNumber
  have t2 := two_lt hn
  have tp : 0 < 2 ^ (n * (n - 1) / 2) := Nat.pow_pos (by decide)
  rw [two_np hn]
  obtain ⟨m, hm⟩ : ∃ m, 2 ^ (n * (n - 1) / 2) = m + 1 := ⟨2 ^ (n * (n - 1) / 2) - 1, by omega⟩
  rw [hm] at ho t2 ⊢
  rw [nI_pred, nI_l (by omega)]
  exact r_no (l := 0) (by omega) (by omega) ho ⟨rfl, h⟩
/-- two nodes -/
def gp (n : Nat) (x y : Int32) : Prop := ∃ a b, a < n ∧ b < n ∧ a ≠ b ∧ x = nI a ∧ y = nI b
theorem n_pair6 {n : Nat} {x y : Int32} {post : Int32 → Prop} (h1 : 1 ≤ n) (hn : n ≤ 6) (hb : ¬ gp n x y) (h : post 0) : wp_X6_isPair x y (nI n) post := by
  rcases kd x 0 (n - 1) (by omega) with ⟨a, _, ha, rfl⟩ | o
  · refine s_isNode6 hn (by omega) (yes1 ?_)
    rcases kd y 0 (n - 1) (by omega) with ⟨b, _, hb2, rfl⟩ | o
    · exact s_isNode6 hn (by omega) (yes1 (c_eq (by omega) (by omega) (fun _ => h) (fun q => absurd ⟨a, b, by omega, by omega, q, rfl, rfl⟩ hb)))
    · exact n_node6 h1 hn o (no0 h)
  · exact n_node6 h1 hn o (no0 h)
theorem y_pair6 {n a b : Nat} {post : Int32 → Prop} (hn : n ≤ 6) (ha : a < n) (hb : b < n) (hab : a ≠ b) (h : post 1) : wp_X6_isPair (nI a) (nI b) (nI n) post :=
  s_isNode6 hn ha (yes1 (s_isNode6 hn hb (yes1 (c_eq (by omega) (by omega) (fun q => absurd q hab) (fun _ => h)))))
theorem n_pair7 {n : Nat} {x y : Int32} {A B : Prop} (h1 : 1 ≤ n) (hn : n ≤ 6) (hb : ¬ gp n x y) (h : A) : wp_X7_isNode x (nI n) (fun r1 => (r1 = 0 → A) ∧ (¬ r1 = 0 → wp_X7_isNode y (nI n) (fun r3 => (r3 = 0 → A) ∧ (¬ r3 = 0 → ((x = y → A) ∧ (¬ x = y → B)))))) := by
  rcases kd x 0 (n - 1) (by omega) with ⟨a, _, ha, rfl⟩ | o
  · refine s_isNode7 h1 hn (by omega) (yes1 ?_)
    rcases kd y 0 (n - 1) (by omega) with ⟨b, _, hb2, rfl⟩ | o
    · exact s_isNode7 h1 hn (by omega) (yes1 (c_eq (by omega) (by omega) (fun _ => h) (fun q => absurd ⟨a, b, by omega, by omega, q, rfl, rfl⟩ hb)))
    · exact n_node7 h1 hn o (no0 h)
  · exact n_node7 h1 hn o (no0 h)
theorem y_pair7 {n a b : Nat} {A B : Prop} (h1 : 1 ≤ n) (hn : n ≤ 6) (ha : a < n) (hb : b < n) (hab : a ≠ b) (h : B) : wp_X7_isNode (nI a) (nI n) (fun r1 => (r1 = 0 → A) ∧ (¬ r1 = 0 → wp_X7_isNode (nI b) (nI n) (fun r3 => (r3 = 0 → A) ∧ (¬ r3 = 0 → ((nI a = nI b → A) ∧ (¬ nI a = nI b → B)))))) :=
  s_isNode7 h1 hn ha (yes1 (s_isNode7 h1 hn hb (yes1 (c_eq (by omega) (by omega) (fun q => absurd q hab) (fun _ => h)))))
