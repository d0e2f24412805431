def wp_X2_init (post : (Nat → Int32) → (Int32) → (Int32) → (Int32) → Prop) : Prop := post (fun _ => (0 : Int32)) (0 : Int32) (0 : Int32) (0 : Int32)
abbrev q_X2_init (g : xG) (a_re : Nat) (post : (Nat → Int32) → (Int32) → (Int32) → (Int32) → Prop) : (Nat → Prop) → Array Value → State → Outcome → State → Prop := xQv g (fun (u : (Nat) × (Nat → Int32) × (Int32) × (Int32) × (Int32)) => match u with | (a_im, f_im, rf, rt, rk) => post f_im rf rt rk) (fun (u : (Nat) × (Nat → Int32) × (Int32) × (Int32) × (Int32)) => match u with | (a_im, f_im, rf, rt, rk) => [(a_re, .inr (2, [.ref a_im, .int rf, .int rt, .int rk])), (a_im, .inl (xcI g, 6, .inl f_im))])
theorem in_X2_init_X2 : ∀ w ∈ u_ws RX2 TX2 4, w ∈ wsX2_init := by decide +kernel
set_option maxHeartbeats 1000000 in
set_option maxRecDepth 100000 in
theorem c_X2_init (l : Launch) (g : xG) (sz : Nat) (a_re : Nat) (post : (Nat → Int32) → (Int32) → (Int32) → (Int32) → Prop) (h : wp_X2_init  post) : xM l yX2_init wsX2_init ({ frames := 1, cells := 1, slots := 6, locals := 12 } : Room) g sz [(a_re, .inr (2, [.null, .int (0 : Int32), .int (0 : Int32), .int (0 : Int32)]))] [.ref a_re] (q_X2_init g a_re  post) 1 6 := by
  refine xmet (cc := cX2_init) (maxL := 1) (ret := none) (by decide) rfl (Nat.le_of_ble_eq_true rfl) ?_
  intro p e s m args below meth c A ls H locs C0 hP hD hS hl
  obtain ⟨hx, hb, hr, hml, hown, hin, hts, hlocks, hA, hK, hZ⟩ := id C0
  have hown : s.vm.findClass RX2 = some m.cls := hown
  have hl : lv_has ls 1 [(0, .ref a_re)] := hl
  unfold wp_X2_init at h
  refine lv_aload_n hx hb dX2_init_0 rfl (lv_at hl 0 rfl) ?_
  refine W.objInit hx hb hown (hts (.methodLink RX2 3 objectInit) (by decide +kernel)) (hts (.instanceMethod objectInit) (by decide +kernel)) (hts (.code objectInit ⟨#[0xb1]⟩ 1 none) (by decide +kernel)) rfl (by rw [hml]; exact hl.1) rfl dX2_init_1 (Nat.le_of_ble_eq_true rfl) (Nat.le_of_ble_eq_true rfl) ?_
  refine W.eq (g2 := F0 m 4 ls []) rfl ?_
  refine lv_aload_n hx hb dX2_init_4 rfl (lv_at hl 0 rfl) ?_
  refine lv_bipush (v := 6) hx hb dX2_init_5 (by decide) ?_
  refine va_newa (atype := .int) (ty := .int) (n := (6 : Int32)) (N' := 6) (a0 := (6, (.inl (fun _ => 0)))) hx hb (hts (.arrayClass .int) (by decide +kernel)) rfl hK hP hD hS hA (fun _ => rfl) (by decide +kernel) (by decide +kernel) (by decide +kernel) (by decide +kernel) (by decide +kernel) dX2_init_7 (fun q1 cA H hKn hP hD hS => ?_)
  obtain rfl := xarr (k := 0) (fun _ q9 => by cases q9) hKn rfl
  have hP : va_P g.1 vwCl [(a_re, .inr (2, [.null, .int (0 : Int32), .int (0 : Int32), .int (0 : Int32)])), (q1, .inl (xcI g, 6, .inl (fun _ => (0 : Int32))))] H := hP
  have hD : va_D A [(a_re, .inr (2, [.null, .int (0 : Int32), .int (0 : Int32), .int (0 : Int32)])), (q1, .inl (xcI g, 6, .inl (fun _ => (0 : Int32))))] := hD
  refine W.widen (k := 1) (n := 6) (by decide) (by decide) ?_
  refine va_putF (D := g.1) (ci := 2) (v := .ref q1) (ty := .array .int) (C := RX2) (T := TX2) (N := 4) hx hb hts in_X2_init_X2 tyX2 tyX2_ok nmX2 hown hK hP hD hS 0 rfl rfl 0 (by decide) (hts (.fieldLink RX2 9 "RandomModels$Renumbering" "images" "[I") (by decide +kernel)) (fun _ h9 => h9) rfl hin rfl (by decide +kernel) rfl rfl (Nat.le_of_ble_eq_true rfl) dX2_init_9 (fun H locs hP hD hS => ?_)
  have hP : va_P g.1 vwCl [(a_re, .inr (2, [.ref q1, .int (0 : Int32), .int (0 : Int32), .int (0 : Int32)])), (q1, .inl (xcI g, 6, .inl (fun _ => (0 : Int32))))] H := hP
  have hD : va_D A [(a_re, .inr (2, [.ref q1, .int (0 : Int32), .int (0 : Int32), .int (0 : Int32)])), (q1, .inl (xcI g, 6, .inl (fun _ => (0 : Int32))))] := hD
  exact xretv (q1, (fun _ => (0 : Int32)), (0 : Int32), (0 : Int32), (0 : Int32)) C0 hP hD hS h dX2_init_12

def b_X2_all_4 (post : Int32 → Prop) : Nat → (Int32) → (Int32) → (Int32) → Prop
  | 0 => fun x0 x1 x2 => False
  | n4 + 1 => fun x0 x1 x2 => ((x0 < x2 → post x1 ) ∧ (¬ x0 < x2 → (b_X2_all_4 post  n4) x0 (x1 * x2) (x2 + 1)))
def wp_X2_all (p_nodes : Int32) (post : Int32 → Prop) : Prop := ∃ n : Nat, b_X2_all_4  post  n p_nodes (1 : Int32) (2 : Int32)
abbrev q_X2_all (g : xG) (post : Int32 → Prop) : (Nat → Prop) → Array Value → State → Outcome → State → Prop := xQi g (fun (r : Int32) (u : Unit) => post r ) (fun (_ : Unit) => [])
set_option maxHeartbeats 1000000 in
set_option maxRecDepth 100000 in
theorem w_X2_all_4 {p : Program} {l : Launch} {e : Env} {s : State} {m : MethodId} {args : Array Value} {below : List Frame} {meth : Method} {c : Code} {A : Nat → Prop} {g : xG} (C0 : vx g p s m args meth c cX2_all (some .int) 3 yX2_all wsX2_all A) (post : Int32 → Prop) : ∀ (n : Nat) (x0 : Int32) (x1 : Int32) (x2 : Int32) {H : Heap} {locs : List Loc} {ls : Array Slot}, va_P g.1 vwCl [] H → va_D A [] → va_S A s.heap H locs → lv_has ls 3 [(0, .int x0), (1, .int x1), (2, .int x2)] → b_X2_all_4 post  n x0 x1 x2 → W p l e ({ frames := 0, cells := 0, slots := 0, locals := 0 } : Room) s m args below meth c H locs 0 0 (MQ below ((q_X2_all g   post) A) args s 0 0 A) (F0 m 4 ls []) := by
  obtain ⟨hx, hb, hr, hml, hown, hin, hts, hlocks, hA, hK, hZ⟩ := id C0
  have hown : s.vm.findClass RX2 = some m.cls := hown
  intro n
  induction n with
  | zero =>
    intro  x0 x1 x2 H locs ls hP hD hS hl h
    exact False.elim h
  | succ n4 hk4 =>
    intro  x0 x1 x2 H locs ls hP hD hS hl h
    unfold b_X2_all_4 at h
    refine lv_iload_n hx hb dX2_all_4 rfl (lv_at hl 2 rfl) ?_
    refine lv_iload_n hx hb dX2_all_5 rfl (lv_at hl 0 rfl) ?_
    refine lv_icmp_gt (tgt := 19) hx hb dX2_all_6 (by decide) (fun c1 => ?_) (fun c1 => ?_)
    · have h := h.1 c1
      refine lv_iload_n hx hb dX2_all_19 rfl (lv_at hl 1 rfl) ?_
      exact xreti () C0 hP hD hS h dX2_all_20
    · have h := h.2 c1
      refine lv_iload_n hx hb dX2_all_9 rfl (lv_at hl 1 rfl) ?_
      refine lv_iload_n hx hb dX2_all_10 rfl (lv_at hl 2 rfl) ?_
      refine lv_imul hx hb dX2_all_11 ?_
      refine lv_istore_n (lv' := [(1, .int (x1 * x2)), (0, .int x0), (2, .int x2)]) hx hb dX2_all_12 rfl hl (by decide) rfl (fun ls hl => ?_)
      refine lv_iinc (v := (x2 + 1)) (lv' := [(2, .int (x2 + 1)), (1, .int (x1 * x2)), (0, .int x0)]) hx hb dX2_all_13 hl (k := 2) rfl rfl (by decide) rfl (fun ls hl => ?_)
      refine lv_goto (tgt := 4) hx hb dX2_all_16 (by decide) ?_
      exact hk4  x0 (x1 * x2) (x2 + 1) hP hD hS (lv_sub hl [2, 1, 0] rfl) h
set_option maxHeartbeats 1000000 in
set_option maxRecDepth 100000 in
theorem c_X2_all (l : Launch) (g : xG) (sz : Nat) (p_nodes : Int32) (post : Int32 → Prop) (h : wp_X2_all p_nodes post) : xM l yX2_all wsX2_all ({ frames := 0, cells := 0, slots := 0, locals := 0 } : Room) g sz [] [.int p_nodes] (q_X2_all g   post) 0 0 := by
  refine xmet (cc := cX2_all) (maxL := 3) (ret := (some .int)) (by decide) rfl (Nat.le_of_ble_eq_true rfl) ?_
  intro p e s m args below meth c A ls H locs C0 hP hD hS hl
  obtain ⟨hx, hb, hr, hml, hown, hin, hts, hlocks, hA, hK, hZ⟩ := id C0
  have hown : s.vm.findClass RX2 = some m.cls := hown
  have hl : lv_has ls 3 [(0, .int p_nodes)] := hl
  unfold wp_X2_all at h
  refine lv_iconst (v := 1) hx hb dX2_all_0 (by decide) ?_
  refine lv_istore_n (lv' := [(1, .int (1 : Int32)), (0, .int p_nodes)]) hx hb dX2_all_1 rfl hl (by decide) rfl (fun ls hl => ?_)
  refine lv_iconst (v := 2) hx hb dX2_all_2 (by decide) ?_
  refine lv_istore_n (lv' := [(2, .int (2 : Int32)), (1, .int (1 : Int32)), (0, .int p_nodes)]) hx hb dX2_all_3 rfl hl (by decide) rfl (fun ls hl => ?_)
  obtain ⟨n, h⟩ := h
  exact w_X2_all_4 C0   post   n  p_nodes (1 : Int32) (2 : Int32) hP hD hS (lv_sub hl [2, 1, 0] rfl) h

def b_X2_fits_2 (rf : Int32) (rt : Int32) (f_im : Nat → Int32) (post : Int32 → Prop) : Nat → (Int32) → (Int32) → (Int32) → Prop
  | 0 => fun x1 x2 x3 => False
  | n2 + 1 => fun x1 x2 x3 => ((x1 ≤ x3 → post (1 : Int32) ) ∧ (¬ x1 ≤ x3 → wp_X1_indexOf x3 x1 (fun r2 => (∀ z3 : Int32, z3 = ((rf >>> (r2 &&& 31)) &&& (1 : Int32)) → (vp_in x3 6 ∧ wp_X1_indexOf (f_im x3.toNatClampNeg) x2 (fun r5 => (∀ z6 : Int32, z6 = ((rt >>> (r5 &&& 31)) &&& (1 : Int32)) → ((z3 = z6 → (b_X2_fits_2 rf rt f_im post  n2) x1 x2 (x3 + 1)) ∧ (¬ z3 = z6 → post (0 : Int32) )))))))))
def wp_X2_fits (p_node : Int32) (p_image : Int32) (rf : Int32) (rt : Int32) (f_im : Nat → Int32) (post : Int32 → Prop) : Prop := ∃ n : Nat, b_X2_fits_2 rf rt f_im post  n p_node p_image (0 : Int32)
abbrev q_X2_fits (g : xG) (a_re : Nat) (a_im : Nat) (rf : Int32) (rt : Int32) (rk : Int32) (f_im : Nat → Int32) (post : Int32 → Prop) : (Nat → Prop) → Array Value → State → Outcome → State → Prop := xQi g (fun (r : Int32) (u : Unit) => post r ) (fun (_ : Unit) => [(a_re, .inr (2, [.ref a_im, .int rf, .int rt, .int rk])), (a_im, .inl (xcI g, 6, .inl f_im))])
theorem in_X2_fits_X2 : ∀ w ∈ u_ws RX2 TX2 4, w ∈ wsX2_fits := by decide +kernel
set_option maxHeartbeats 1000000 in
set_option maxRecDepth 100000 in
theorem w_X2_fits_2 {p : Program} {l : Launch} {e : Env} {s : State} {m : MethodId} {args : Array Value} {below : List Frame} {meth : Method} {c : Code} {A : Nat → Prop} {g : xG} (C0 : vx g p s m args meth c cX2_fits (some .boolean) 6 yX2_fits wsX2_fits A) (a_re : Nat) (a_im : Nat) (rf : Int32) (rt : Int32) (rk : Int32) (f_im : Nat → Int32) (post : Int32 → Prop) : ∀ (n : Nat) (x1 : Int32) (x2 : Int32) (x3 : Int32) {H : Heap} {locs : List Loc} {ls : Array Slot}, va_P g.1 vwCl [(a_re, .inr (2, [.ref a_im, .int rf, .int rt, .int rk])), (a_im, .inl (xcI g, 6, .inl f_im))] H → va_D A [(a_re, .inr (2, [.ref a_im, .int rf, .int rt, .int rk])), (a_im, .inl (xcI g, 6, .inl f_im))] → va_S A s.heap H locs → lv_has ls 6 [(0, .ref a_re), (1, .int x1), (2, .int x2), (3, .int x3)] → b_X2_fits_2 rf rt f_im post  n x1 x2 x3 → W p l e ({ frames := 2, cells := 0, slots := 0, locals := 41 } : Room) s m args below meth c H locs 0 0 (MQ below ((q_X2_fits g a_re a_im rf rt rk f_im post) A) args s 0 0 A) (F0 m 2 ls []) := by
  obtain ⟨hx, hb, hr, hml, hown, hin, hts, hlocks, hA, hK, hZ⟩ := id C0
  have hown : s.vm.findClass RX2 = some m.cls := hown
  intro n
  induction n with
  | zero =>
    intro  x1 x2 x3 H locs ls hP hD hS hl h
    exact False.elim h
  | succ n2 hk2 =>
    intro  x1 x2 x3 H locs ls hP hD hS hl h
    unfold b_X2_fits_2 at h
    refine lv_iload_n hx hb dX2_fits_2 rfl (lv_at hl 3 rfl) ?_
    refine lv_iload_n hx hb dX2_fits_3 rfl (lv_at hl 1 rfl) ?_
    refine lv_icmp_ge (tgt := 55) hx hb dX2_fits_4 (by decide) (fun c1 => ?_) (fun c1 => ?_)
    · have h := h.1 c1
      refine lv_iconst (v := 1) hx hb dX2_fits_55 (by decide) ?_
      exact xretz () C0 rfl hP hD hS h dX2_fits_56
    · have h := h.2 c1
      refine lv_aload_n hx hb dX2_fits_7 rfl (lv_at hl 0 rfl) ?_
      refine va_get (D := g.1) (ci := 2) (v := .int rf) (C := RX2) (T := TX2) (N := 4) hx hb hts in_X2_fits_X2 hown hK hP 0 rfl rfl 1 (by decide) (hts (.fieldLink RX2 15 "RandomModels$Renumbering" "from" "I") (by decide +kernel)) (fun _ h9 => h9) rfl dX2_fits_8 ?_
      refine lv_iload_n hx hb dX2_fits_11 rfl (lv_at hl 3 rfl) ?_
      refine lv_iload_n hx hb dX2_fits_12 rfl (lv_at hl 1 rfl) ?_
      refine xi (wr := [(a_re, .inr (2, [.ref a_im, .int rf, .int rt, .int rk])), (a_im, .inl (xcI g, 6, .inl f_im))]) (xrS (As := [.int x3, .int x1]) (rest := [.int rf]) C0 hl.1 (c_X1_indexOf l g _  x3 x1 _ h) (va_cwS 2 hts gX2_fits_X1_indexOf rfl rfl rfl (by decide +kernel) ⟨Nat.le_of_ble_eq_true rfl, Nat.le_of_ble_eq_true rfl⟩) rfl rfl (Nat.le_of_ble_eq_true rfl) dX2_fits_13 ⟨Nat.le_of_ble_eq_true rfl, Nat.le_of_ble_eq_true rfl⟩) C0 hP hD hS [] [0, 1] (by decide) rfl rfl rfl (by decide) (by decide) (fun r2 u H locs h hP hD hS => ?_)
      have hP : va_P g.1 vwCl [(a_re, .inr (2, [.ref a_im, .int rf, .int rt, .int rk])), (a_im, .inl (xcI g, 6, .inl f_im))] H := hP
      have hD : va_D A [(a_re, .inr (2, [.ref a_im, .int rf, .int rt, .int rk])), (a_im, .inl (xcI g, 6, .inl f_im))] := hD
      refine lv_ishr hx hb dX2_fits_16 ?_
      refine lv_iconst (v := 1) hx hb dX2_fits_17 (by decide) ?_
      refine lv_iand hx hb dX2_fits_18 ?_
      refine lv_topi (fun z3 ez3 => ?_)
      have h := h z3 ez3
      refine lv_istore (lv' := [(4, .int z3), (0, .ref a_re), (1, .int x1), (2, .int x2), (3, .int x3)]) hx hb dX2_fits_19 hl (by decide) rfl (fun ls hl => ?_)
      refine lv_aload_n hx hb dX2_fits_21 rfl (lv_at hl 1 rfl) ?_
      refine va_get (D := g.1) (ci := 2) (v := .int rt) (C := RX2) (T := TX2) (N := 4) hx hb hts in_X2_fits_X2 hown hK hP 0 rfl rfl 2 (by decide) (hts (.fieldLink RX2 19 "RandomModels$Renumbering" "to" "I") (by decide +kernel)) (fun _ h9 => h9) rfl dX2_fits_22 ?_
      refine lv_aload_n hx hb dX2_fits_25 rfl (lv_at hl 1 rfl) ?_
      refine va_get (D := g.1) (ci := 2) (v := .ref a_im) (C := RX2) (T := TX2) (N := 4) hx hb hts in_X2_fits_X2 hown hK hP 0 rfl rfl 0 (by decide) (hts (.fieldLink RX2 9 "RandomModels$Renumbering" "images" "[I") (by decide +kernel)) (fun _ h9 => h9) rfl dX2_fits_26 ?_
      refine lv_iload_n hx hb dX2_fits_29 rfl (lv_at hl 4 rfl) ?_
      obtain ⟨c4, h⟩ := h
      refine va_iald hx hb hK hP 1 0 rfl rfl c4 dX2_fits_30 ?_
      refine lv_iload_n hx hb dX2_fits_31 rfl (lv_at hl 3 rfl) ?_
      refine xi (wr := [(a_re, .inr (2, [.ref a_im, .int rf, .int rt, .int rk])), (a_im, .inl (xcI g, 6, .inl f_im))]) (xrS (As := [.int (f_im x3.toNatClampNeg), .int x2]) (rest := [.int rt]) C0 hl.1 (c_X1_indexOf l g _  (f_im x3.toNatClampNeg) x2 _ h) (va_cwS 2 hts gX2_fits_X1_indexOf rfl rfl rfl (by decide +kernel) ⟨Nat.le_of_ble_eq_true rfl, Nat.le_of_ble_eq_true rfl⟩) rfl rfl (Nat.le_of_ble_eq_true rfl) dX2_fits_32 ⟨Nat.le_of_ble_eq_true rfl, Nat.le_of_ble_eq_true rfl⟩) C0 hP hD hS [] [0, 1] (by decide) rfl rfl rfl (by decide) (by decide) (fun r5 u H locs h hP hD hS => ?_)
      have hP : va_P g.1 vwCl [(a_re, .inr (2, [.ref a_im, .int rf, .int rt, .int rk])), (a_im, .inl (xcI g, 6, .inl f_im))] H := hP
      have hD : va_D A [(a_re, .inr (2, [.ref a_im, .int rf, .int rt, .int rk])), (a_im, .inl (xcI g, 6, .inl f_im))] := hD
      refine lv_ishr hx hb dX2_fits_35 ?_
      refine lv_iconst (v := 1) hx hb dX2_fits_36 (by decide) ?_
      refine lv_iand hx hb dX2_fits_37 ?_
      refine lv_topi (fun z6 ez6 => ?_)
      have h := h z6 ez6
      refine lv_istore (lv' := [(5, .int z6), (4, .int z3), (0, .ref a_re), (1, .int x1), (2, .int x2), (3, .int x3)]) hx hb dX2_fits_38 hl (by decide) rfl (fun ls hl => ?_)
      refine lv_iload hx hb dX2_fits_40 (lv_at hl 1 rfl) ?_
      refine lv_iload hx hb dX2_fits_42 (lv_at hl 0 rfl) ?_
      refine lv_icmp_eq (tgt := 49) hx hb dX2_fits_44 (by decide) (fun c7 => ?_) (fun c7 => ?_)
      · have h := h.1 c7
        refine lv_iinc (v := (x3 + 1)) (lv' := [(3, .int (x3 + 1)), (5, .int z6), (4, .int z3), (0, .ref a_re), (1, .int x1), (2, .int x2)]) hx hb dX2_fits_49 hl (k := 5) rfl rfl (by decide) rfl (fun ls hl => ?_)
        refine lv_goto (tgt := 2) hx hb dX2_fits_52 (by decide) ?_
        exact hk2  x1 x2 (x3 + 1) hP hD hS (lv_sub hl [3, 4, 5, 0] rfl) h
      · have h := h.2 c7
        refine lv_iconst (v := 0) hx hb dX2_fits_47 (by decide) ?_
        exact xretz () C0 rfl hP hD hS h dX2_fits_48
set_option maxHeartbeats 1000000 in
set_option maxRecDepth 100000 in
theorem c_X2_fits (l : Launch) (g : xG) (sz : Nat) (a_re : Nat) (a_im : Nat) (p_node : Int32) (p_image : Int32) (rf : Int32) (rt : Int32) (rk : Int32) (f_im : Nat → Int32) (post : Int32 → Prop) (h : wp_X2_fits p_node p_image rf rt f_im post) : xM l yX2_fits wsX2_fits ({ frames := 2, cells := 0, slots := 0, locals := 41 } : Room) g sz [(a_re, .inr (2, [.ref a_im, .int rf, .int rt, .int rk])), (a_im, .inl (xcI g, 6, .inl f_im))] [.ref a_re, .int p_node, .int p_image] (q_X2_fits g a_re a_im rf rt rk f_im post) 0 0 := by
  refine xmet (cc := cX2_fits) (maxL := 6) (ret := (some .boolean)) (by decide) rfl (Nat.le_of_ble_eq_true rfl) ?_
  intro p e s m args below meth c A ls H locs C0 hP hD hS hl
  obtain ⟨hx, hb, hr, hml, hown, hin, hts, hlocks, hA, hK, hZ⟩ := id C0
  have hown : s.vm.findClass RX2 = some m.cls := hown
  have hl : lv_has ls 6 [(0, .ref a_re), (1, .int p_node), (2, .int p_image)] := hl
  unfold wp_X2_fits at h
  refine lv_iconst (v := 0) hx hb dX2_fits_0 (by decide) ?_
  refine lv_istore_n (lv' := [(3, .int (0 : Int32)), (0, .ref a_re), (1, .int p_node), (2, .int p_image)]) hx hb dX2_fits_1 rfl hl (by decide) rfl (fun ls hl => ?_)
  obtain ⟨n, h⟩ := h
  exact w_X2_fits_2 C0 a_re a_im rf rt rk f_im post   n  p_node p_image (0 : Int32) hP hD hS (lv_sub hl [1, 2, 3, 0] rfl) h

def b_X2_countFrom_67 (rf : Int32) (rt : Int32) (rk : Int32) (rc : (Int32) → (Int32) → (Int32) → (Int32) → (Int32) → (Nat → Int32) → (Int32 → (Nat → Int32) → Prop) → Prop) (post : Int32 → (Nat → Int32) → Prop) (k15 : (Int32) → (Int32) → (Int32) → (Int32) → (Nat → Int32) → Prop) (x1 : Int32) (x2 : Int32) (x3 : Int32) (x4 : Int32) (f_im : Nat → Int32) : Prop := k15 x1 x2 x3 (x4 + 1) f_im
def b_X2_countFrom_15 (rf : Int32) (rt : Int32) (rk : Int32) (rc : (Int32) → (Int32) → (Int32) → (Int32) → (Int32) → (Nat → Int32) → (Int32 → (Nat → Int32) → Prop) → Prop) (post : Int32 → (Nat → Int32) → Prop) : Nat → (Int32) → (Int32) → (Int32) → (Int32) → (Nat → Int32) → Prop
  | 0 => fun x1 x2 x3 x4 f_im => False
  | n15 + 1 => fun x1 x2 x3 x4 f_im => ((rk ≤ x4 → post x3 f_im) ∧ (¬ rk ≤ x4 → ((((x2 >>> (x4 &&& 31)) &&& (1 : Int32)) = 0 → wp_X2_fits x1 x4 rf rt f_im (fun r4 => ((r4 = 0 → b_X2_countFrom_67 rf rt rk rc post (b_X2_countFrom_15 rf rt rk rc post  n15) x1 x2 x3 x4 f_im) ∧ (¬ r4 = 0 → (vp_in x1 6 ∧ rc (x1 + (1 : Int32)) (x2 ||| ((1 : Int32) <<< (x4 &&& 31))) rf rt rk (upd f_im x1.toNatClampNeg x4) (fun r7 f_im_8 => b_X2_countFrom_67 rf rt rk rc post (b_X2_countFrom_15 rf rt rk rc post  n15) x1 x2 (x3 + r7) x4 f_im_8)))))) ∧ (¬ ((x2 >>> (x4 &&& 31)) &&& (1 : Int32)) = 0 → b_X2_countFrom_67 rf rt rk rc post (b_X2_countFrom_15 rf rt rk rc post  n15) x1 x2 x3 x4 f_im))))
def wp_X2_countFrom : Nat → (Int32) → (Int32) → (Int32) → (Int32) → (Int32) → (Nat → Int32) → (Int32 → (Nat → Int32) → Prop) → Prop
  | 0 => fun p_node p_taken rf rt rk f_im post => False
  | d + 1 => fun p_node p_taken rf rt rk f_im post => ((p_node < rk → ∃ n : Nat, b_X2_countFrom_15 rf rt rk (wp_X2_countFrom d) post  n p_node p_taken (0 : Int32) (0 : Int32) f_im) ∧ (¬ p_node < rk → post (1 : Int32) f_im))
abbrev q_X2_countFrom (g : xG) (a_re : Nat) (a_im : Nat) (rf : Int32) (rt : Int32) (rk : Int32) (post : Int32 → (Nat → Int32) → Prop) : (Nat → Prop) → Array Value → State → Outcome → State → Prop := xQi g (fun (r : Int32) (f_im : (Nat → Int32)) => post r f_im) (fun (f_im : (Nat → Int32)) => [(a_re, .inr (2, [.ref a_im, .int rf, .int rt, .int rk])), (a_im, .inl (xcI g, 6, .inl f_im))])
theorem in_X2_countFrom_X2 : ∀ w ∈ u_ws RX2 TX2 4, w ∈ wsX2_countFrom := by decide +kernel
set_option maxHeartbeats 1000000 in
set_option maxRecDepth 100000 in
theorem w_X2_countFrom_67 {p : Program} {l : Launch} {e : Env} {s : State} {m : MethodId} {args : Array Value} {below : List Frame} {meth : Method} {c : Code} {A : Nat → Prop} {d : Nat} {g : xG} (C0 : vx g p s m args meth c cX2_countFrom (some .int) 5 yX2_countFrom wsX2_countFrom A) (a_re : Nat) (a_im : Nat) (rf : Int32) (rt : Int32) (rk : Int32) (rc : (Int32) → (Int32) → (Int32) → (Int32) → (Int32) → (Nat → Int32) → (Int32 → (Nat → Int32) → Prop) → Prop) (post : Int32 → (Nat → Int32) → Prop) (hrc : ∀ (sz : Nat) (a_re : Nat) (a_im : Nat) (p_node : Int32) (p_taken : Int32) (rf : Int32) (rt : Int32) (rk : Int32) (f_im : Nat → Int32) (post : Int32 → (Nat → Int32) → Prop), rc p_node p_taken rf rt rk f_im post → xM l yX2_countFrom wsX2_countFrom ({ frames := d + 3, cells := 0, slots := 0, locals := 24 * d + 66 } : Room) g sz [(a_re, .inr (2, [.ref a_im, .int rf, .int rt, .int rk])), (a_im, .inl (xcI g, 6, .inl f_im))] [.ref a_re, .int p_node, .int p_taken] (q_X2_countFrom g a_re a_im rf rt rk post) 0 0) (k15 : (Int32) → (Int32) → (Int32) → (Int32) → (Nat → Int32) → Prop) (hk15 : ∀ (x1 : Int32) (x2 : Int32) (x3 : Int32) (x4 : Int32) (f_im : Nat → Int32) {H : Heap} {locs : List Loc} {ls : Array Slot}, va_P g.1 vwCl [(a_re, .inr (2, [.ref a_im, .int rf, .int rt, .int rk])), (a_im, .inl (xcI g, 6, .inl f_im))] H → va_D A [(a_re, .inr (2, [.ref a_im, .int rf, .int rt, .int rk])), (a_im, .inl (xcI g, 6, .inl f_im))] → va_S A s.heap H locs → lv_has ls 5 [(0, .ref a_re), (1, .int x1), (2, .int x2), (3, .int x3), (4, .int x4)] → k15 x1 x2 x3 x4 f_im → W p l e ({ frames := d + 1 + 3, cells := 0, slots := 0, locals := 24 * (d + 1) + 66 } : Room) s m args below meth c H locs 0 0 (MQ below ((q_X2_countFrom g a_re a_im rf rt rk post) A) args s 0 0 A) (F0 m 15 ls [])) (x1 : Int32) (x2 : Int32) (x3 : Int32) (x4 : Int32) (f_im : Nat → Int32) {H : Heap} {locs : List Loc} {ls : Array Slot} (hP : va_P g.1 vwCl [(a_re, .inr (2, [.ref a_im, .int rf, .int rt, .int rk])), (a_im, .inl (xcI g, 6, .inl f_im))] H) (hD : va_D A [(a_re, .inr (2, [.ref a_im, .int rf, .int rt, .int rk])), (a_im, .inl (xcI g, 6, .inl f_im))]) (hS : va_S A s.heap H locs) (hl : lv_has ls 5 [(0, .ref a_re), (1, .int x1), (2, .int x2), (3, .int x3), (4, .int x4)]) (h : b_X2_countFrom_67 rf rt rk rc post k15 x1 x2 x3 x4 f_im) : W p l e ({ frames := d + 1 + 3, cells := 0, slots := 0, locals := 24 * (d + 1) + 66 } : Room) s m args below meth c H locs 0 0 (MQ below ((q_X2_countFrom g a_re a_im rf rt rk post) A) args s 0 0 A) (F0 m 67 ls []) := by
  obtain ⟨hx, hb, hr, hml, hown, hin, hts, hlocks, hA, hK, hZ⟩ := id C0
  have hown : s.vm.findClass RX2 = some m.cls := hown
  unfold b_X2_countFrom_67 at h
  refine lv_iinc (v := (x4 + 1)) (lv' := [(4, .int (x4 + 1)), (0, .ref a_re), (1, .int x1), (2, .int x2), (3, .int x3)]) hx hb dX2_countFrom_67 hl (k := 4) rfl rfl (by decide) rfl (fun ls hl => ?_)
  refine lv_goto (tgt := 15) hx hb dX2_countFrom_70 (by decide) ?_
  exact hk15  x1 x2 x3 (x4 + 1) f_im hP hD hS (lv_sub hl [1, 2, 3, 4, 0] rfl) h
set_option maxHeartbeats 1000000 in
set_option maxRecDepth 100000 in
theorem w_X2_countFrom_15 {p : Program} {l : Launch} {e : Env} {s : State} {m : MethodId} {args : Array Value} {below : List Frame} {meth : Method} {c : Code} {A : Nat → Prop} {d : Nat} {g : xG} (C0 : vx g p s m args meth c cX2_countFrom (some .int) 5 yX2_countFrom wsX2_countFrom A) (a_re : Nat) (a_im : Nat) (rf : Int32) (rt : Int32) (rk : Int32) (rc : (Int32) → (Int32) → (Int32) → (Int32) → (Int32) → (Nat → Int32) → (Int32 → (Nat → Int32) → Prop) → Prop) (post : Int32 → (Nat → Int32) → Prop) (hrc : ∀ (sz : Nat) (a_re : Nat) (a_im : Nat) (p_node : Int32) (p_taken : Int32) (rf : Int32) (rt : Int32) (rk : Int32) (f_im : Nat → Int32) (post : Int32 → (Nat → Int32) → Prop), rc p_node p_taken rf rt rk f_im post → xM l yX2_countFrom wsX2_countFrom ({ frames := d + 3, cells := 0, slots := 0, locals := 24 * d + 66 } : Room) g sz [(a_re, .inr (2, [.ref a_im, .int rf, .int rt, .int rk])), (a_im, .inl (xcI g, 6, .inl f_im))] [.ref a_re, .int p_node, .int p_taken] (q_X2_countFrom g a_re a_im rf rt rk post) 0 0) : ∀ (n : Nat) (x1 : Int32) (x2 : Int32) (x3 : Int32) (x4 : Int32) (f_im : Nat → Int32) {H : Heap} {locs : List Loc} {ls : Array Slot}, va_P g.1 vwCl [(a_re, .inr (2, [.ref a_im, .int rf, .int rt, .int rk])), (a_im, .inl (xcI g, 6, .inl f_im))] H → va_D A [(a_re, .inr (2, [.ref a_im, .int rf, .int rt, .int rk])), (a_im, .inl (xcI g, 6, .inl f_im))] → va_S A s.heap H locs → lv_has ls 5 [(0, .ref a_re), (1, .int x1), (2, .int x2), (3, .int x3), (4, .int x4)] → b_X2_countFrom_15 rf rt rk rc post  n x1 x2 x3 x4 f_im → W p l e ({ frames := d + 1 + 3, cells := 0, slots := 0, locals := 24 * (d + 1) + 66 } : Room) s m args below meth c H locs 0 0 (MQ below ((q_X2_countFrom g a_re a_im rf rt rk post) A) args s 0 0 A) (F0 m 15 ls []) := by
  obtain ⟨hx, hb, hr, hml, hown, hin, hts, hlocks, hA, hK, hZ⟩ := id C0
  have hown : s.vm.findClass RX2 = some m.cls := hown
  intro n
  induction n with
  | zero =>
    intro  x1 x2 x3 x4 f_im H locs ls hP hD hS hl h
    exact False.elim h
  | succ n15 hk15 =>
    intro  x1 x2 x3 x4 f_im H locs ls hP hD hS hl h
    unfold b_X2_countFrom_15 at h
    refine lv_iload hx hb dX2_countFrom_15 (lv_at hl 4 rfl) ?_
    refine lv_aload_n hx hb dX2_countFrom_17 rfl (lv_at hl 0 rfl) ?_
    refine va_get (D := g.1) (ci := 2) (v := .int rk) (C := RX2) (T := TX2) (N := 4) hx hb hts in_X2_countFrom_X2 hown hK hP 0 rfl rfl 3 (by decide) (hts (.fieldLink RX2 28 "RandomModels$Renumbering" "nodes" "I") (by decide +kernel)) (fun _ h9 => h9) rfl dX2_countFrom_18 ?_
    refine lv_icmp_ge (tgt := 73) hx hb dX2_countFrom_21 (by decide) (fun c2 => ?_) (fun c2 => ?_)
    · have h := h.1 c2
      refine lv_iload_n hx hb dX2_countFrom_73 rfl (lv_at hl 3 rfl) ?_
      exact xreti f_im C0 hP hD hS h dX2_countFrom_74
    · have h := h.2 c2
      refine lv_iload_n hx hb dX2_countFrom_24 rfl (lv_at hl 2 rfl) ?_
      refine lv_iload hx hb dX2_countFrom_25 (lv_at hl 4 rfl) ?_
      refine lv_ishr hx hb dX2_countFrom_27 ?_
      refine lv_iconst (v := 1) hx hb dX2_countFrom_28 (by decide) ?_
      refine lv_iand hx hb dX2_countFrom_29 ?_
      refine lv_if_ne (tgt := 67) hx hb dX2_countFrom_30 (by decide) (fun c3 => ?_) (fun c3 => ?_)
      · have h := h.2 c3
        exact w_X2_countFrom_67 C0 a_re a_im rf rt rk rc post hrc (b_X2_countFrom_15 rf rt rk rc post  n15) hk15  x1 x2 x3 x4 f_im hP hD hS (lv_sub hl [0, 1, 2, 3, 4] rfl) h
      · have h := h.1 c3
        refine lv_aload_n hx hb dX2_countFrom_33 rfl (lv_at hl 0 rfl) ?_
        refine lv_iload_n hx hb dX2_countFrom_34 rfl (lv_at hl 1 rfl) ?_
        refine lv_iload hx hb dX2_countFrom_35 (lv_at hl 4 rfl) ?_
        refine xi (wr := []) (xrV (As := [.int x1, .int x4]) (rest := []) C0 hl.1 (c_X2_fits l g _ a_re a_im x1 x4 rf rt rk f_im _ h) (cwV 2 hts gX2_countFrom_X2_fits rfl rfl rfl (by decide +kernel) ⟨by show 2 + 1 ≤ d + 1 + 3; omega, by show 8 + (6 + 11) + (41) ≤ 24 * (d + 1) + 66; omega⟩) 0 2 rfl rfl rfl rfl rfl (Nat.le_of_ble_eq_true rfl) dX2_countFrom_37 ⟨Nat.le_of_ble_eq_true rfl, Nat.le_of_ble_eq_true rfl⟩) C0 hP hD hS [0, 1] [] (by decide) rfl rfl rfl (by decide) (by decide) (fun r4 u H locs h hP hD hS => ?_)
        have hP : va_P g.1 vwCl [(a_re, .inr (2, [.ref a_im, .int rf, .int rt, .int rk])), (a_im, .inl (xcI g, 6, .inl f_im))] H := hP
        have hD : va_D A [(a_re, .inr (2, [.ref a_im, .int rf, .int rt, .int rk])), (a_im, .inl (xcI g, 6, .inl f_im))] := hD
        refine lv_if_eq (tgt := 67) hx hb dX2_countFrom_40 (by decide) (fun c5 => ?_) (fun c5 => ?_)
        · have h := h.1 c5
          exact w_X2_countFrom_67 C0 a_re a_im rf rt rk rc post hrc (b_X2_countFrom_15 rf rt rk rc post  n15) hk15  x1 x2 x3 x4 f_im hP hD hS (lv_sub hl [0, 1, 2, 3, 4] rfl) h
        · have h := h.2 c5
          refine lv_aload_n hx hb dX2_countFrom_43 rfl (lv_at hl 0 rfl) ?_
          refine va_get (D := g.1) (ci := 2) (v := .ref a_im) (C := RX2) (T := TX2) (N := 4) hx hb hts in_X2_countFrom_X2 hown hK hP 0 rfl rfl 0 (by decide) (hts (.fieldLink RX2 9 "RandomModels$Renumbering" "images" "[I") (by decide +kernel)) (fun _ h9 => h9) rfl dX2_countFrom_44 ?_
          refine lv_iload_n hx hb dX2_countFrom_47 rfl (lv_at hl 1 rfl) ?_
          refine lv_iload hx hb dX2_countFrom_48 (lv_at hl 4 rfl) ?_
          obtain ⟨c6, h⟩ := h
          refine va_iast hx hb hK hP hD hS 1 0 rfl rfl c6 dX2_countFrom_50 (fun H locs hP hD hS => ?_)
          have hP : va_P g.1 vwCl [(a_re, .inr (2, [.ref a_im, .int rf, .int rt, .int rk])), (a_im, .inl (xcI g, 6, .inl (upd f_im x1.toNatClampNeg x4)))] H := hP
          have hD : va_D A [(a_re, .inr (2, [.ref a_im, .int rf, .int rt, .int rk])), (a_im, .inl (xcI g, 6, .inl (upd f_im x1.toNatClampNeg x4)))] := hD
          refine lv_iload_n hx hb dX2_countFrom_51 rfl (lv_at hl 3 rfl) ?_
          refine lv_aload_n hx hb dX2_countFrom_52 rfl (lv_at hl 0 rfl) ?_
          refine lv_iload_n hx hb dX2_countFrom_53 rfl (lv_at hl 1 rfl) ?_
          refine lv_iconst (v := 1) hx hb dX2_countFrom_54 (by decide) ?_
          refine lv_iadd hx hb dX2_countFrom_55 ?_
          refine lv_iload_n hx hb dX2_countFrom_56 rfl (lv_at hl 2 rfl) ?_
          refine lv_iconst (v := 1) hx hb dX2_countFrom_57 (by decide) ?_
          refine lv_iload hx hb dX2_countFrom_58 (lv_at hl 4 rfl) ?_
          refine lv_ishl hx hb dX2_countFrom_60 ?_
          refine lv_ior hx hb dX2_countFrom_61 ?_
          refine xi (wr := []) (xrV (As := [.int (x1 + (1 : Int32)), .int (x2 ||| ((1 : Int32) <<< (x4 &&& 31)))]) (rest := [.int x3]) C0 hl.1 (hrc _ a_re a_im (x1 + (1 : Int32)) (x2 ||| ((1 : Int32) <<< (x4 &&& 31))) rf rt rk (upd f_im x1.toNatClampNeg x4) _ h) (cwV 2 hts gX2_countFrom_X2_countFrom rfl rfl rfl (by decide +kernel) ⟨by show d + 3 + 1 ≤ d + 1 + 3; omega, by show 8 + (5 + 11) + (24 * d + 66) ≤ 24 * (d + 1) + 66; omega⟩) 0 2 rfl rfl rfl rfl rfl (Nat.le_of_ble_eq_true rfl) dX2_countFrom_62 ⟨Nat.le_of_ble_eq_true rfl, Nat.le_of_ble_eq_true rfl⟩) C0 hP hD hS [0, 1] [] (by decide) rfl rfl rfl (by decide) (by decide) (fun r7 u H locs h hP hD hS => ?_)
          obtain ⟨f_im_8, rfl⟩ : ∃ z, z = u := ⟨_, rfl⟩
          have hP : va_P g.1 vwCl [(a_re, .inr (2, [.ref a_im, .int rf, .int rt, .int rk])), (a_im, .inl (xcI g, 6, .inl f_im_8))] H := hP
          have hD : va_D A [(a_re, .inr (2, [.ref a_im, .int rf, .int rt, .int rk])), (a_im, .inl (xcI g, 6, .inl f_im_8))] := hD
          refine lv_iadd hx hb dX2_countFrom_65 ?_
          refine lv_istore_n (lv' := [(3, .int (x3 + r7)), (0, .ref a_re), (1, .int x1), (2, .int x2), (4, .int x4)]) hx hb dX2_countFrom_66 rfl hl (by decide) rfl (fun ls hl => ?_)
          exact w_X2_countFrom_67 C0 a_re a_im rf rt rk rc post hrc (b_X2_countFrom_15 rf rt rk rc post  n15) hk15  x1 x2 (x3 + r7) x4 f_im_8 hP hD hS (lv_sub hl [1, 2, 3, 0, 4] rfl) h
set_option maxHeartbeats 1000000 in
set_option maxRecDepth 100000 in
theorem c_X2_countFrom (l : Launch) (g : xG) : ∀ (d : Nat) (sz : Nat) (a_re : Nat) (a_im : Nat) (p_node : Int32) (p_taken : Int32) (rf : Int32) (rt : Int32) (rk : Int32) (f_im : Nat → Int32) (post : Int32 → (Nat → Int32) → Prop), wp_X2_countFrom d p_node p_taken rf rt rk f_im post → xM l yX2_countFrom wsX2_countFrom ({ frames := d + 3, cells := 0, slots := 0, locals := 24 * d + 66 } : Room) g sz [(a_re, .inr (2, [.ref a_im, .int rf, .int rt, .int rk])), (a_im, .inl (xcI g, 6, .inl f_im))] [.ref a_re, .int p_node, .int p_taken] (q_X2_countFrom g a_re a_im rf rt rk post) 0 0 := by
  intro d
  induction d with
  | zero =>
    intros
    exact False.elim (by assumption)
  | succ d ih =>
  intro sz a_re a_im p_node p_taken rf rt rk f_im post h
  refine xmet (cc := cX2_countFrom) (maxL := 5) (ret := (some .int)) (by decide) rfl (Nat.le_of_ble_eq_true rfl) ?_
  intro p e s m args below meth c A ls H locs C0 hP hD hS hl
  obtain ⟨hx, hb, hr, hml, hown, hin, hts, hlocks, hA, hK, hZ⟩ := id C0
  have hown : s.vm.findClass RX2 = some m.cls := hown
  have hl : lv_has ls 5 [(0, .ref a_re), (1, .int p_node), (2, .int p_taken)] := hl
  unfold wp_X2_countFrom at h
  refine lv_iload_n hx hb dX2_countFrom_0 rfl (lv_at hl 1 rfl) ?_
  refine lv_aload_n hx hb dX2_countFrom_1 rfl (lv_at hl 0 rfl) ?_
  refine va_get (D := g.1) (ci := 2) (v := .int rk) (C := RX2) (T := TX2) (N := 4) hx hb hts in_X2_countFrom_X2 hown hK hP 0 rfl rfl 3 (by decide) (hts (.fieldLink RX2 28 "RandomModels$Renumbering" "nodes" "I") (by decide +kernel)) (fun _ h9 => h9) rfl dX2_countFrom_2 ?_
  refine lv_icmp_lt (tgt := 10) hx hb dX2_countFrom_5 (by decide) (fun c1 => ?_) (fun c1 => ?_)
  · have h := h.1 c1
    refine lv_iconst (v := 0) hx hb dX2_countFrom_10 (by decide) ?_
    refine lv_istore_n (lv' := [(3, .int (0 : Int32)), (0, .ref a_re), (1, .int p_node), (2, .int p_taken)]) hx hb dX2_countFrom_11 rfl hl (by decide) rfl (fun ls hl => ?_)
    refine lv_iconst (v := 0) hx hb dX2_countFrom_12 (by decide) ?_
    refine lv_istore (lv' := [(4, .int (0 : Int32)), (3, .int (0 : Int32)), (0, .ref a_re), (1, .int p_node), (2, .int p_taken)]) hx hb dX2_countFrom_13 hl (by decide) rfl (fun ls hl => ?_)
    obtain ⟨n, h⟩ := h
    exact w_X2_countFrom_15 C0 a_re a_im rf rt rk (wp_X2_countFrom d) post ih   n  p_node p_taken (0 : Int32) (0 : Int32) f_im hP hD hS (lv_sub hl [2, 3, 4, 1, 0] rfl) h
  · have h := h.2 c1
    refine lv_iconst (v := 1) hx hb dX2_countFrom_8 (by decide) ?_
    exact xreti f_im C0 hP hD hS h dX2_countFrom_9

def wp_X2_count (p_from_ : Int32) (p_to_ : Int32) (p_nodes : Int32) (rf : Int32) (rt : Int32) (rk : Int32) (f_im : Nat → Int32) (post : Int32 → (Int32) → (Int32) → (Int32) → (Nat → Int32) → Prop) : Prop := wp_X2_countFrom 7 (0 : Int32) (0 : Int32) p_from_ p_to_ (if (6 : Int32) < p_nodes then (6 : Int32) else p_nodes) f_im (fun r1 f_im_2 => post r1 p_from_ p_to_ (if (6 : Int32) < p_nodes then (6 : Int32) else p_nodes) f_im_2)
abbrev q_X2_count (g : xG) (a_re : Nat) (a_im : Nat) (post : Int32 → (Int32) → (Int32) → (Int32) → (Nat → Int32) → Prop) : (Nat → Prop) → Array Value → State → Outcome → State → Prop := xQi g (fun (r : Int32) (u : (Int32) × (Int32) × (Int32) × (Nat → Int32)) => match u with | (rf, rt, rk, f_im) => post r rf rt rk f_im) (fun (u : (Int32) × (Int32) × (Int32) × (Nat → Int32)) => match u with | (rf, rt, rk, f_im) => [(a_re, .inr (2, [.ref a_im, .int rf, .int rt, .int rk])), (a_im, .inl (xcI g, 6, .inl f_im))])
theorem in_X2_count_X2 : ∀ w ∈ u_ws RX2 TX2 4, w ∈ wsX2_count := by decide +kernel
set_option maxHeartbeats 1000000 in
set_option maxRecDepth 100000 in
theorem c_X2_count (l : Launch) (g : xG) (sz : Nat) (a_re : Nat) (a_im : Nat) (p_from_ : Int32) (p_to_ : Int32) (p_nodes : Int32) (rf : Int32) (rt : Int32) (rk : Int32) (f_im : Nat → Int32) (post : Int32 → (Int32) → (Int32) → (Int32) → (Nat → Int32) → Prop) (h : wp_X2_count p_from_ p_to_ p_nodes rf rt rk f_im post) : xM l yX2_count wsX2_count ({ frames := 11, cells := 0, slots := 0, locals := 258 } : Room) g sz [(a_re, .inr (2, [.ref a_im, .int rf, .int rt, .int rk])), (a_im, .inl (xcI g, 6, .inl f_im))] [.ref a_re, .int p_from_, .int p_to_, .int p_nodes] (q_X2_count g a_re a_im  post) 0 0 := by
  refine xmet (cc := cX2_count) (maxL := 4) (ret := (some .int)) (by decide) rfl (Nat.le_of_ble_eq_true rfl) ?_
  intro p e s m args below meth c A ls H locs C0 hP hD hS hl
  obtain ⟨hx, hb, hr, hml, hown, hin, hts, hlocks, hA, hK, hZ⟩ := id C0
  have hown : s.vm.findClass RX2 = some m.cls := hown
  have hl : lv_has ls 4 [(0, .ref a_re), (1, .int p_from_), (2, .int p_to_), (3, .int p_nodes)] := hl
  unfold wp_X2_count at h
  refine lv_aload_n hx hb dX2_count_0 rfl (lv_at hl 0 rfl) ?_
  refine lv_iload_n hx hb dX2_count_1 rfl (lv_at hl 1 rfl) ?_
  refine va_put (D := g.1) (ci := 2) (v := .int p_from_) (ty := .int) (C := RX2) (T := TX2) (N := 4) hx hb hts in_X2_count_X2 tyX2 tyX2_ok nmX2 hown hK hP hD hS 0 rfl rfl 1 (by decide) (hts (.fieldLink RX2 15 "RandomModels$Renumbering" "from" "I") (by decide +kernel)) (fun _ h9 => h9) rfl (by decide +kernel) rfl rfl (Nat.le_of_ble_eq_true rfl) dX2_count_2 (fun H locs hP hD hS => ?_)
  have hP : va_P g.1 vwCl [(a_re, .inr (2, [.ref a_im, .int p_from_, .int rt, .int rk])), (a_im, .inl (xcI g, 6, .inl f_im))] H := hP
  have hD : va_D A [(a_re, .inr (2, [.ref a_im, .int p_from_, .int rt, .int rk])), (a_im, .inl (xcI g, 6, .inl f_im))] := hD
  refine lv_aload_n hx hb dX2_count_5 rfl (lv_at hl 0 rfl) ?_
  refine lv_iload_n hx hb dX2_count_6 rfl (lv_at hl 2 rfl) ?_
  refine va_put (D := g.1) (ci := 2) (v := .int p_to_) (ty := .int) (C := RX2) (T := TX2) (N := 4) hx hb hts in_X2_count_X2 tyX2 tyX2_ok nmX2 hown hK hP hD hS 0 rfl rfl 2 (by decide) (hts (.fieldLink RX2 19 "RandomModels$Renumbering" "to" "I") (by decide +kernel)) (fun _ h9 => h9) rfl (by decide +kernel) rfl rfl (Nat.le_of_ble_eq_true rfl) dX2_count_7 (fun H locs hP hD hS => ?_)
  have hP : va_P g.1 vwCl [(a_re, .inr (2, [.ref a_im, .int p_from_, .int p_to_, .int rk])), (a_im, .inl (xcI g, 6, .inl f_im))] H := hP
  have hD : va_D A [(a_re, .inr (2, [.ref a_im, .int p_from_, .int p_to_, .int rk])), (a_im, .inl (xcI g, 6, .inl f_im))] := hD
  refine lv_aload_n hx hb dX2_count_10 rfl (lv_at hl 0 rfl) ?_
  refine lv_iload_n hx hb dX2_count_11 rfl (lv_at hl 3 rfl) ?_
  refine lv_bipush (v := 6) hx hb dX2_count_12 (by decide) ?_
  refine va_mmin hx hb (hml.trans hl.1.symm) hown (hts (.methodLink RX2 22 Lib.Math.min.name) (by decide +kernel)) (hts (.static Lib.Math.min.name) (by decide +kernel)) (hts (.initialized "java/lang/Math") (by decide +kernel)) (hts (.code Lib.Math.min.name Lib.Math.min.code 2 (some .int)) (by decide +kernel)) (Nat.le_of_ble_eq_true rfl) (Nat.le_of_ble_eq_true rfl) (Nat.le_of_ble_eq_true rfl) (Nat.le_of_ble_eq_true rfl) dX2_count_14 ?_
  refine va_put (D := g.1) (ci := 2) (v := .int (if (6 : Int32) < p_nodes then (6 : Int32) else p_nodes)) (ty := .int) (C := RX2) (T := TX2) (N := 4) hx hb hts in_X2_count_X2 tyX2 tyX2_ok nmX2 hown hK hP hD hS 0 rfl rfl 3 (by decide) (hts (.fieldLink RX2 28 "RandomModels$Renumbering" "nodes" "I") (by decide +kernel)) (fun _ h9 => h9) rfl (by decide +kernel) rfl rfl (Nat.le_of_ble_eq_true rfl) dX2_count_17 (fun H locs hP hD hS => ?_)
  have hP : va_P g.1 vwCl [(a_re, .inr (2, [.ref a_im, .int p_from_, .int p_to_, .int (if (6 : Int32) < p_nodes then (6 : Int32) else p_nodes)])), (a_im, .inl (xcI g, 6, .inl f_im))] H := hP
  have hD : va_D A [(a_re, .inr (2, [.ref a_im, .int p_from_, .int p_to_, .int (if (6 : Int32) < p_nodes then (6 : Int32) else p_nodes)])), (a_im, .inl (xcI g, 6, .inl f_im))] := hD
  refine lv_aload_n hx hb dX2_count_20 rfl (lv_at hl 0 rfl) ?_
  refine lv_iconst (v := 0) hx hb dX2_count_21 (by decide) ?_
  refine lv_iconst (v := 0) hx hb dX2_count_22 (by decide) ?_
  refine xi (wr := []) (xrV (As := [.int (0 : Int32), .int (0 : Int32)]) (rest := []) C0 hl.1 (c_X2_countFrom l g 7 _ a_re a_im (0 : Int32) (0 : Int32) p_from_ p_to_ (if (6 : Int32) < p_nodes then (6 : Int32) else p_nodes) f_im _ h) (cwV 2 hts gX2_count_X2_countFrom rfl rfl rfl (by decide +kernel) ⟨Nat.le_of_ble_eq_true rfl, Nat.le_of_ble_eq_true rfl⟩) 0 2 rfl rfl rfl rfl rfl (Nat.le_of_ble_eq_true rfl) dX2_count_23 ⟨Nat.le_of_ble_eq_true rfl, Nat.le_of_ble_eq_true rfl⟩) C0 hP hD hS [0, 1] [] (by decide) rfl rfl rfl (by decide) (by decide) (fun r1 u H locs h hP hD hS => ?_)
  obtain ⟨f_im_2, rfl⟩ : ∃ z, z = u := ⟨_, rfl⟩
  have hP : va_P g.1 vwCl [(a_re, .inr (2, [.ref a_im, .int p_from_, .int p_to_, .int (if (6 : Int32) < p_nodes then (6 : Int32) else p_nodes)])), (a_im, .inl (xcI g, 6, .inl f_im_2))] H := hP
  have hD : va_D A [(a_re, .inr (2, [.ref a_im, .int p_from_, .int p_to_, .int (if (6 : Int32) < p_nodes then (6 : Int32) else p_nodes)])), (a_im, .inl (xcI g, 6, .inl f_im_2))] := hD
  exact xreti (p_from_, p_to_, (if (6 : Int32) < p_nodes then (6 : Int32) else p_nodes), f_im_2) C0 hP hD hS h dX2_count_26
