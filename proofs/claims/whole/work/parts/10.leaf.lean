def wp_J6_bitCount_0f7a4 (p_i : Int32) (post : Int32 → Prop) : Prop := (∀ z1 : Int32, z1 = (p_i - (((p_i.toUInt32 >>> ((1 : Int32).toUInt32 &&& Int32.toUInt32 31)).toInt32) &&& (1431655765 : Int32))) → (∀ z2 : Int32, z2 = ((z1 &&& (858993459 : Int32)) + (((z1.toUInt32 >>> ((2 : Int32).toUInt32 &&& Int32.toUInt32 31)).toInt32) &&& (858993459 : Int32))) → (∀ z3 : Int32, z3 = ((z2 + ((z2.toUInt32 >>> ((4 : Int32).toUInt32 &&& Int32.toUInt32 31)).toInt32)) &&& (252645135 : Int32)) → (∀ z4 : Int32, z4 = (z3 + ((z3.toUInt32 >>> ((8 : Int32).toUInt32 &&& Int32.toUInt32 31)).toInt32)) → (∀ z5 : Int32, z5 = (z4 + ((z4.toUInt32 >>> ((16 : Int32).toUInt32 &&& Int32.toUInt32 31)).toInt32)) → post (z5 &&& (63 : Int32)) )))))
abbrev q_J6_bitCount_0f7a4 (g : xG) (post : Int32 → Prop) : (Nat → Prop) → Array Value → State → Outcome → State → Prop := xQi g (fun (r : Int32) (u : Unit) => post r ) (fun (_ : Unit) => [])
set_option maxHeartbeats 1000000 in
set_option maxRecDepth 100000 in
theorem c_J6_bitCount_0f7a4 (l : Launch) (g : xG) (sz : Nat) (p_i : Int32) (post : Int32 → Prop) (h : wp_J6_bitCount_0f7a4 p_i post) : xM l yJ6_bitCount_0f7a4 wsJ6_bitCount_0f7a4 ({ frames := 0, cells := 0, slots := 0, locals := 0 } : Room) g sz [] [.int p_i] (q_J6_bitCount_0f7a4 g   post) 0 0 := by
  refine xmet (cc := cJ6_bitCount_0f7a4) (maxL := 1) (ret := (some .int)) (by decide) rfl (Nat.le_of_ble_eq_true rfl) ?_
  intro p e s m args below meth c A ls H locs C0 hP hD hS hl
  obtain ⟨hx, hb, hr, hml, hown, hin, hts, hlocks, hA, hK, hZ⟩ := id C0
  have hown : s.vm.findClass RJ6 = some m.cls := hown
  have hl : lv_has ls 1 [(0, .int p_i)] := hl
  unfold wp_J6_bitCount_0f7a4 at h
  refine lv_iload_n hx hb dJ6_bitCount_0f7a4_0 rfl (lv_at hl 0 rfl) ?_
  refine lv_iload_n hx hb dJ6_bitCount_0f7a4_1 rfl (lv_at hl 0 rfl) ?_
  refine lv_iconst (v := 1) hx hb dJ6_bitCount_0f7a4_2 (by decide) ?_
  refine lv_iushr (v := (p_i.toUInt32 >>> ((1 : Int32).toUInt32 &&& Int32.toUInt32 31)).toInt32) hx hb dJ6_bitCount_0f7a4_3 rfl ?_
  refine lv_ldcw (v := 1431655765) hx hb hown (hts (.constant RJ6 265 (1431655765)) (by decide +kernel)) dJ6_bitCount_0f7a4_4 ?_
  refine lv_iand hx hb dJ6_bitCount_0f7a4_7 ?_
  refine lv_isub hx hb dJ6_bitCount_0f7a4_8 ?_
  refine lv_topi (fun z1 ez1 => ?_)
  have h := h z1 ez1
  refine lv_istore_n (lv' := [(0, .int z1)]) hx hb dJ6_bitCount_0f7a4_9 rfl hl (by decide) rfl (fun ls hl => ?_)
  refine lv_iload_n hx hb dJ6_bitCount_0f7a4_10 rfl (lv_at hl 0 rfl) ?_
  refine lv_ldcw (v := 858993459) hx hb hown (hts (.constant RJ6 266 (858993459)) (by decide +kernel)) dJ6_bitCount_0f7a4_11 ?_
  refine lv_iand hx hb dJ6_bitCount_0f7a4_14 ?_
  refine lv_iload_n hx hb dJ6_bitCount_0f7a4_15 rfl (lv_at hl 0 rfl) ?_
  refine lv_iconst (v := 2) hx hb dJ6_bitCount_0f7a4_16 (by decide) ?_
  refine lv_iushr (v := (z1.toUInt32 >>> ((2 : Int32).toUInt32 &&& Int32.toUInt32 31)).toInt32) hx hb dJ6_bitCount_0f7a4_17 rfl ?_
  refine lv_ldcw (v := 858993459) hx hb hown (hts (.constant RJ6 266 (858993459)) (by decide +kernel)) dJ6_bitCount_0f7a4_18 ?_
  refine lv_iand hx hb dJ6_bitCount_0f7a4_21 ?_
  refine lv_iadd hx hb dJ6_bitCount_0f7a4_22 ?_
  refine lv_topi (fun z2 ez2 => ?_)
  have h := h z2 ez2
  refine lv_istore_n (lv' := [(0, .int z2)]) hx hb dJ6_bitCount_0f7a4_23 rfl hl (by decide) rfl (fun ls hl => ?_)
  refine lv_iload_n hx hb dJ6_bitCount_0f7a4_24 rfl (lv_at hl 0 rfl) ?_
  refine lv_iload_n hx hb dJ6_bitCount_0f7a4_25 rfl (lv_at hl 0 rfl) ?_
  refine lv_iconst (v := 4) hx hb dJ6_bitCount_0f7a4_26 (by decide) ?_
  refine lv_iushr (v := (z2.toUInt32 >>> ((4 : Int32).toUInt32 &&& Int32.toUInt32 31)).toInt32) hx hb dJ6_bitCount_0f7a4_27 rfl ?_
  refine lv_iadd hx hb dJ6_bitCount_0f7a4_28 ?_
  refine lv_ldcw (v := 252645135) hx hb hown (hts (.constant RJ6 267 (252645135)) (by decide +kernel)) dJ6_bitCount_0f7a4_29 ?_
  refine lv_iand hx hb dJ6_bitCount_0f7a4_32 ?_
  refine lv_topi (fun z3 ez3 => ?_)
  have h := h z3 ez3
  refine lv_istore_n (lv' := [(0, .int z3)]) hx hb dJ6_bitCount_0f7a4_33 rfl hl (by decide) rfl (fun ls hl => ?_)
  refine lv_iload_n hx hb dJ6_bitCount_0f7a4_34 rfl (lv_at hl 0 rfl) ?_
  refine lv_iload_n hx hb dJ6_bitCount_0f7a4_35 rfl (lv_at hl 0 rfl) ?_
  refine lv_bipush (v := 8) hx hb dJ6_bitCount_0f7a4_36 (by decide) ?_
  refine lv_iushr (v := (z3.toUInt32 >>> ((8 : Int32).toUInt32 &&& Int32.toUInt32 31)).toInt32) hx hb dJ6_bitCount_0f7a4_38 rfl ?_
  refine lv_iadd hx hb dJ6_bitCount_0f7a4_39 ?_
  refine lv_topi (fun z4 ez4 => ?_)
  have h := h z4 ez4
  refine lv_istore_n (lv' := [(0, .int z4)]) hx hb dJ6_bitCount_0f7a4_40 rfl hl (by decide) rfl (fun ls hl => ?_)
  refine lv_iload_n hx hb dJ6_bitCount_0f7a4_41 rfl (lv_at hl 0 rfl) ?_
  refine lv_iload_n hx hb dJ6_bitCount_0f7a4_42 rfl (lv_at hl 0 rfl) ?_
  refine lv_bipush (v := 16) hx hb dJ6_bitCount_0f7a4_43 (by decide) ?_
  refine lv_iushr (v := (z4.toUInt32 >>> ((16 : Int32).toUInt32 &&& Int32.toUInt32 31)).toInt32) hx hb dJ6_bitCount_0f7a4_45 rfl ?_
  refine lv_iadd hx hb dJ6_bitCount_0f7a4_46 ?_
  refine lv_topi (fun z5 ez5 => ?_)
  have h := h z5 ez5
  refine lv_istore_n (lv' := [(0, .int z5)]) hx hb dJ6_bitCount_0f7a4_47 rfl hl (by decide) rfl (fun ls hl => ?_)
  refine lv_iload_n hx hb dJ6_bitCount_0f7a4_48 rfl (lv_at hl 0 rfl) ?_
  refine lv_bipush (v := 63) hx hb dJ6_bitCount_0f7a4_49 (by decide) ?_
  refine lv_iand hx hb dJ6_bitCount_0f7a4_51 ?_
  exact xreti () C0 hP hD hS h dJ6_bitCount_0f7a4_52

def wp_X0_setState (p_s : Int64) (ds : Int64) (post : (Int64) → Prop) : Prop := post p_s
abbrev q_X0_setState (g : xG) (a_di : Nat) (post : (Int64) → Prop) : (Nat → Prop) → Array Value → State → Outcome → State → Prop := xQv g (fun (ds : (Int64)) => post ds) (fun (ds : (Int64)) => [(a_di, .inr (0, [.long ds]))])
theorem in_X0_setState_X0 : ∀ w ∈ u_ws RX0 TX0 1, w ∈ wsX0_setState := by decide +kernel
set_option maxHeartbeats 1000000 in
set_option maxRecDepth 100000 in
theorem c_X0_setState (l : Launch) (g : xG) (sz : Nat) (a_di : Nat) (p_s : Int64) (ds : Int64) (post : (Int64) → Prop) (h : wp_X0_setState p_s ds post) : xM l yX0_setState wsX0_setState ({ frames := 0, cells := 0, slots := 0, locals := 0 } : Room) g sz [(a_di, .inr (0, [.long ds]))] [.ref a_di, .long p_s] (q_X0_setState g a_di  post) 0 0 := by
  refine xmet (cc := cX0_setState) (maxL := 3) (ret := none) (by decide) rfl (Nat.le_of_ble_eq_true rfl) ?_
  intro p e s m args below meth c A ls H locs C0 hP hD hS hl
  obtain ⟨hx, hb, hr, hml, hown, hin, hts, hlocks, hA, hK, hZ⟩ := id C0
  have hown : s.vm.findClass RX0 = some m.cls := hown
  have hl : lv_has ls 3 [(0, .ref a_di), (1, .long p_s)] := hl
  unfold wp_X0_setState at h
  refine lv_aload_n hx hb dX0_setState_0 rfl (lv_at hl 0 rfl) ?_
  refine lv_lload_n hx hb dX0_setState_1 rfl (lv_at hl 1 rfl) ?_
  refine va_put (D := g.1) (ci := 0) (v := .long p_s) (ty := .long) (C := RX0) (T := TX0) (N := 1) hx hb hts in_X0_setState_X0 tyX0 tyX0_ok nmX0 hown hK hP hD hS 0 rfl rfl 0 (by decide) (hts (.fieldLink RX0 7 "RandomModels$Dice" "state" "J") (by decide +kernel)) (fun _ h9 => h9) rfl (by decide +kernel) rfl rfl (Nat.le_of_ble_eq_true rfl) dX0_setState_2 (fun H locs hP hD hS => ?_)
  have hP : va_P g.1 vwCl [(a_di, .inr (0, [.long p_s]))] H := hP
  have hD : va_D A [(a_di, .inr (0, [.long p_s]))] := hD
  exact xretv p_s C0 hP hD hS h dX0_setState_5

def b_X0_below_71 (post : Int64 → (Int64) → Prop) (x1 : Int64) (x5 : Int64) (ds : Int64) : Prop := (¬ x1 = 0 ∧ post (x5 - x5 / x1 * x1) ds)
def b_X0_below_24 (post : Int64 → (Int64) → Prop) : Nat → (Int64) → (Int64) → (Int64) → (Int32) → (Int64) → Prop
  | 0 => fun x1 x3 x5 x7 ds => False
  | n24 + 1 => fun x1 x3 x5 x7 ds => (((1000000 : Int32) ≤ x7 → b_X0_below_71  post  x1 x5 ds) ∧ (¬ (1000000 : Int32) ≤ x7 → (∀ z5 : Int64, z5 = ((((ds * (6364136223846793005 : Int64)) + (1442695040888963407 : Int64)).toUInt64 >>> ((1 : Int32).toInt64.toUInt64 &&& Int64.toUInt64 63)).toInt64) → ((0 ≤ (lg_cmp z5 x3) → (b_X0_below_24 post  n24) x1 x3 z5 (x7 + 1) ((ds * (6364136223846793005 : Int64)) + (1442695040888963407 : Int64))) ∧ (¬ 0 ≤ (lg_cmp z5 x3) → b_X0_below_71  post  x1 z5 ((ds * (6364136223846793005 : Int64)) + (1442695040888963407 : Int64)))))))
def wp_X0_below (p_n : Int64) (ds : Int64) (post : Int64 → (Int64) → Prop) : Prop := ((0 ≤ (lg_cmp p_n (1 : Int64)) → (¬ p_n = 0 ∧ (∀ z3 : Int64, z3 = ((9223372036854775807 : Int64) - ((9223372036854775807 : Int64) - (9223372036854775807 : Int64) / p_n * p_n)) → ∃ n : Nat, b_X0_below_24  post  n p_n z3 (0 : Int64) (0 : Int32) ds))) ∧ (¬ 0 ≤ (lg_cmp p_n (1 : Int64)) → post (0 : Int64) ds))
abbrev q_X0_below (g : xG) (a_di : Nat) (post : Int64 → (Int64) → Prop) : (Nat → Prop) → Array Value → State → Outcome → State → Prop := xQl g (fun (r : Int64) (ds : (Int64)) => post r ds) (fun (ds : (Int64)) => [(a_di, .inr (0, [.long ds]))])
theorem in_X0_below_X0 : ∀ w ∈ u_ws RX0 TX0 1, w ∈ wsX0_below := by decide +kernel
set_option maxHeartbeats 1000000 in
set_option maxRecDepth 100000 in
theorem w_X0_below_71 {p : Program} {l : Launch} {e : Env} {s : State} {m : MethodId} {args : Array Value} {below : List Frame} {meth : Method} {c : Code} {A : Nat → Prop} {g : xG} (C0 : vx g p s m args meth c cX0_below (some .long) 8 yX0_below wsX0_below A) (a_di : Nat) (post : Int64 → (Int64) → Prop) (x1 : Int64) (x5 : Int64) (ds : Int64) {H : Heap} {locs : List Loc} {ls : Array Slot} (hP : va_P g.1 vwCl [(a_di, .inr (0, [.long ds]))] H) (hD : va_D A [(a_di, .inr (0, [.long ds]))]) (hS : va_S A s.heap H locs) (hl : lv_has ls 8 [(1, .long x1), (5, .long x5)]) (h : b_X0_below_71 post  x1 x5 ds) : W p l e ({ frames := 0, cells := 0, slots := 0, locals := 0 } : Room) s m args below meth c H locs 0 0 (MQ below ((q_X0_below g a_di  post) A) args s 0 0 A) (F0 m 71 ls []) := by
  obtain ⟨hx, hb, hr, hml, hown, hin, hts, hlocks, hA, hK, hZ⟩ := id C0
  have hown : s.vm.findClass RX0 = some m.cls := hown
  unfold b_X0_below_71 at h
  refine lv_lload hx hb dX0_below_71 (lv_at hl 1 rfl) ?_
  refine lv_lload_n hx hb dX0_below_73 rfl (lv_at hl 0 rfl) ?_
  obtain ⟨c7, h⟩ := h
  refine lv_lrem hx hb dX0_below_74 c7 ?_
  exact xretl ds C0 hP hD hS h dX0_below_75
set_option maxHeartbeats 1000000 in
set_option maxRecDepth 100000 in
theorem w_X0_below_24 {p : Program} {l : Launch} {e : Env} {s : State} {m : MethodId} {args : Array Value} {below : List Frame} {meth : Method} {c : Code} {A : Nat → Prop} {g : xG} (C0 : vx g p s m args meth c cX0_below (some .long) 8 yX0_below wsX0_below A) (a_di : Nat) (post : Int64 → (Int64) → Prop) : ∀ (n : Nat) (x1 : Int64) (x3 : Int64) (x5 : Int64) (x7 : Int32) (ds : Int64) {H : Heap} {locs : List Loc} {ls : Array Slot}, va_P g.1 vwCl [(a_di, .inr (0, [.long ds]))] H → va_D A [(a_di, .inr (0, [.long ds]))] → va_S A s.heap H locs → lv_has ls 8 [(0, .ref a_di), (1, .long x1), (3, .long x3), (5, .long x5), (7, .int x7)] → b_X0_below_24 post  n x1 x3 x5 x7 ds → W p l e ({ frames := 0, cells := 0, slots := 0, locals := 0 } : Room) s m args below meth c H locs 0 0 (MQ below ((q_X0_below g a_di  post) A) args s 0 0 A) (F0 m 24 ls []) := by
  obtain ⟨hx, hb, hr, hml, hown, hin, hts, hlocks, hA, hK, hZ⟩ := id C0
  have hown : s.vm.findClass RX0 = some m.cls := hown
  intro n
  induction n with
  | zero =>
    intro  x1 x3 x5 x7 ds H locs ls hP hD hS hl h
    exact False.elim h
  | succ n24 hk24 =>
    intro  x1 x3 x5 x7 ds H locs ls hP hD hS hl h
    unfold b_X0_below_24 at h
    refine lv_iload hx hb dX0_below_24 (lv_at hl 4 rfl) ?_
    refine lv_ldc (v := 1000000) hx hb hown (hts (.constant RX0 15 (1000000)) (by decide +kernel)) dX0_below_26 ?_
    refine lv_icmp_ge (tgt := 71) hx hb dX0_below_28 (by decide) (fun c4 => ?_) (fun c4 => ?_)
    · have h := h.1 c4
      exact w_X0_below_71 C0 a_di  post    x1 x5 ds hP hD hS (lv_sub hl [1, 3] rfl) h
    · have h := h.2 c4
      refine lv_aload_n hx hb dX0_below_31 rfl (lv_at hl 0 rfl) ?_
      refine lv_aload_n hx hb dX0_below_32 rfl (lv_at hl 0 rfl) ?_
      refine va_get (D := g.1) (ci := 0) (v := .long ds) (C := RX0) (T := TX0) (N := 1) hx hb hts in_X0_below_X0 hown hK hP 0 rfl rfl 0 (by decide) (hts (.fieldLink RX0 7 "RandomModels$Dice" "state" "J") (by decide +kernel)) (fun _ h9 => h9) rfl dX0_below_33 ?_
      refine lv_ldc2 (v := 6364136223846793005) hx hb hown (hts (.constantLong RX0 16 (6364136223846793005)) (by decide +kernel)) dX0_below_36 ?_
      refine lv_lmul hx hb dX0_below_39 ?_
      refine lv_ldc2 (v := 1442695040888963407) hx hb hown (hts (.constantLong RX0 18 (1442695040888963407)) (by decide +kernel)) dX0_below_40 ?_
      refine lv_ladd hx hb dX0_below_43 ?_
      refine va_put (D := g.1) (ci := 0) (v := .long ((ds * (6364136223846793005 : Int64)) + (1442695040888963407 : Int64))) (ty := .long) (C := RX0) (T := TX0) (N := 1) hx hb hts in_X0_below_X0 tyX0 tyX0_ok nmX0 hown hK hP hD hS 0 rfl rfl 0 (by decide) (hts (.fieldLink RX0 7 "RandomModels$Dice" "state" "J") (by decide +kernel)) (fun _ h9 => h9) rfl (by decide +kernel) rfl rfl (Nat.le_of_ble_eq_true rfl) dX0_below_44 (fun H locs hP hD hS => ?_)
      have hP : va_P g.1 vwCl [(a_di, .inr (0, [.long ((ds * (6364136223846793005 : Int64)) + (1442695040888963407 : Int64))]))] H := hP
      have hD : va_D A [(a_di, .inr (0, [.long ((ds * (6364136223846793005 : Int64)) + (1442695040888963407 : Int64))]))] := hD
      refine lv_aload_n hx hb dX0_below_47 rfl (lv_at hl 0 rfl) ?_
      refine va_get (D := g.1) (ci := 0) (v := .long ((ds * (6364136223846793005 : Int64)) + (1442695040888963407 : Int64))) (C := RX0) (T := TX0) (N := 1) hx hb hts in_X0_below_X0 hown hK hP 0 rfl rfl 0 (by decide) (hts (.fieldLink RX0 7 "RandomModels$Dice" "state" "J") (by decide +kernel)) (fun _ h9 => h9) rfl dX0_below_48 ?_
      refine lv_iconst (v := 1) hx hb dX0_below_51 (by decide) ?_
      refine lv_lushr (v := (((ds * (6364136223846793005 : Int64)) + (1442695040888963407 : Int64)).toUInt64 >>> ((1 : Int32).toInt64.toUInt64 &&& Int64.toUInt64 63)).toInt64) hx hb dX0_below_52 rfl ?_
      refine lv_topl (fun z5 ez5 => ?_)
      have h := h z5 ez5
      refine lv_lstore (lv' := [(5, .long z5), (0, .ref a_di), (1, .long x1), (3, .long x3), (7, .int x7)]) hx hb dX0_below_53 hl (by decide) rfl (fun ls hl => ?_)
      refine lv_lload hx hb dX0_below_55 (lv_at hl 0 rfl) ?_
      refine lv_lload_n hx hb dX0_below_57 rfl (lv_at hl 3 rfl) ?_
      refine W.lcmp hx hb dX0_below_58 ?_
      refine lv_if_ge (tgt := 65) hx hb dX0_below_59 (by decide) (fun c6 => ?_) (fun c6 => ?_)
      · have h := h.1 c6
        refine lv_iinc (v := (x7 + 1)) (lv' := [(7, .int (x7 + 1)), (5, .long z5), (0, .ref a_di), (1, .long x1), (3, .long x3)]) hx hb dX0_below_65 hl (k := 4) rfl rfl (by decide) rfl (fun ls hl => ?_)
        refine lv_goto (tgt := 24) hx hb dX0_below_68 (by decide) ?_
        exact hk24  x1 x3 z5 (x7 + 1) ((ds * (6364136223846793005 : Int64)) + (1442695040888963407 : Int64)) hP hD hS (lv_sub hl [2, 3, 4, 1, 0] rfl) h
      · have h := h.2 c6
        refine lv_goto (tgt := 71) hx hb dX0_below_62 (by decide) ?_
        exact w_X0_below_71 C0 a_di  post    x1 z5 ((ds * (6364136223846793005 : Int64)) + (1442695040888963407 : Int64)) hP hD hS (lv_sub hl [2, 0] rfl) h
set_option maxHeartbeats 1000000 in
set_option maxRecDepth 100000 in
theorem c_X0_below (l : Launch) (g : xG) (sz : Nat) (a_di : Nat) (p_n : Int64) (ds : Int64) (post : Int64 → (Int64) → Prop) (h : wp_X0_below p_n ds post) : xM l yX0_below wsX0_below ({ frames := 0, cells := 0, slots := 0, locals := 0 } : Room) g sz [(a_di, .inr (0, [.long ds]))] [.ref a_di, .long p_n] (q_X0_below g a_di  post) 0 0 := by
  refine xmet (cc := cX0_below) (maxL := 8) (ret := (some .long)) (by decide) rfl (Nat.le_of_ble_eq_true rfl) ?_
  intro p e s m args below meth c A ls H locs C0 hP hD hS hl
  obtain ⟨hx, hb, hr, hml, hown, hin, hts, hlocks, hA, hK, hZ⟩ := id C0
  have hown : s.vm.findClass RX0 = some m.cls := hown
  have hl : lv_has ls 8 [(0, .ref a_di), (1, .long p_n)] := hl
  unfold wp_X0_below at h
  refine lv_lload_n hx hb dX0_below_0 rfl (lv_at hl 1 rfl) ?_
  refine lv_lconst (v := 1) hx hb dX0_below_1 (by decide) ?_
  refine W.lcmp hx hb dX0_below_2 ?_
  refine lv_if_ge (tgt := 8) hx hb dX0_below_3 (by decide) (fun c1 => ?_) (fun c1 => ?_)
  · have h := h.1 c1
    refine lv_ldc2 (v := 9223372036854775807) hx hb hown (hts (.constantLong RX0 13 (9223372036854775807)) (by decide +kernel)) dX0_below_8 ?_
    refine lv_ldc2 (v := 9223372036854775807) hx hb hown (hts (.constantLong RX0 13 (9223372036854775807)) (by decide +kernel)) dX0_below_11 ?_
    refine lv_lload_n hx hb dX0_below_14 rfl (lv_at hl 1 rfl) ?_
    obtain ⟨c2, h⟩ := h
    refine lv_lrem hx hb dX0_below_15 c2 ?_
    refine lv_lsub hx hb dX0_below_16 ?_
    refine lv_topl (fun z3 ez3 => ?_)
    have h := h z3 ez3
    refine lv_lstore_n (lv' := [(3, .long z3), (0, .ref a_di), (1, .long p_n)]) hx hb dX0_below_17 rfl hl (by decide) rfl (fun ls hl => ?_)
    refine lv_lconst (v := 0) hx hb dX0_below_18 (by decide) ?_
    refine lv_lstore (lv' := [(5, .long (0 : Int64)), (3, .long z3), (0, .ref a_di), (1, .long p_n)]) hx hb dX0_below_19 hl (by decide) rfl (fun ls hl => ?_)
    refine lv_iconst (v := 0) hx hb dX0_below_21 (by decide) ?_
    refine lv_istore (lv' := [(7, .int (0 : Int32)), (5, .long (0 : Int64)), (3, .long z3), (0, .ref a_di), (1, .long p_n)]) hx hb dX0_below_22 hl (by decide) rfl (fun ls hl => ?_)
    obtain ⟨n, h⟩ := h
    exact w_X0_below_24 C0 a_di  post   n  p_n z3 (0 : Int64) (0 : Int32) ds hP hD hS (lv_sub hl [3, 4, 2, 1, 0] rfl) h
  · have h := h.2 c1
    refine lv_lconst (v := 0) hx hb dX0_below_6 (by decide) ?_
    exact xretl ds C0 hP hD hS h dX0_below_7

def wp_X1_among (p_n : Int32) (post : Int32 → Prop) : Prop := (¬ (2 : Int32) = 0 ∧ post ((p_n * (p_n - (1 : Int32))) / (2 : Int32)) )
abbrev q_X1_among (g : xG) (post : Int32 → Prop) : (Nat → Prop) → Array Value → State → Outcome → State → Prop := xQi g (fun (r : Int32) (u : Unit) => post r ) (fun (_ : Unit) => [])
set_option maxHeartbeats 1000000 in
set_option maxRecDepth 100000 in
theorem c_X1_among (l : Launch) (g : xG) (sz : Nat) (p_n : Int32) (post : Int32 → Prop) (h : wp_X1_among p_n post) : xM l yX1_among wsX1_among ({ frames := 0, cells := 0, slots := 0, locals := 0 } : Room) g sz [] [.int p_n] (q_X1_among g   post) 0 0 := by
  refine xmet (cc := cX1_among) (maxL := 1) (ret := (some .int)) (by decide) rfl (Nat.le_of_ble_eq_true rfl) ?_
  intro p e s m args below meth c A ls H locs C0 hP hD hS hl
  obtain ⟨hx, hb, hr, hml, hown, hin, hts, hlocks, hA, hK, hZ⟩ := id C0
  have hown : s.vm.findClass RX1 = some m.cls := hown
  have hl : lv_has ls 1 [(0, .int p_n)] := hl
  unfold wp_X1_among at h
  refine lv_iload_n hx hb dX1_among_0 rfl (lv_at hl 0 rfl) ?_
  refine lv_iload_n hx hb dX1_among_1 rfl (lv_at hl 0 rfl) ?_
  refine lv_iconst (v := 1) hx hb dX1_among_2 (by decide) ?_
  refine lv_isub hx hb dX1_among_3 ?_
  refine lv_imul hx hb dX1_among_4 ?_
  refine lv_iconst (v := 2) hx hb dX1_among_5 (by decide) ?_
  obtain ⟨c1, h⟩ := h
  refine lv_idiv hx hb dX1_among_6 c1 ?_
  exact xreti () C0 hP hD hS h dX1_among_7

def wp_X1_indexOf (p_a : Int32) (p_b : Int32) (post : Int32 → Prop) : Prop := ((p_b ≤ p_a → wp_X1_among p_a (fun r2 => post (r2 + p_b) )) ∧ (¬ p_b ≤ p_a → wp_X1_among p_b (fun r3 => post (r3 + p_a) )))
abbrev q_X1_indexOf (g : xG) (post : Int32 → Prop) : (Nat → Prop) → Array Value → State → Outcome → State → Prop := xQi g (fun (r : Int32) (u : Unit) => post r ) (fun (_ : Unit) => [])
set_option maxHeartbeats 1000000 in
set_option maxRecDepth 100000 in
theorem c_X1_indexOf (l : Launch) (g : xG) (sz : Nat) (p_a : Int32) (p_b : Int32) (post : Int32 → Prop) (h : wp_X1_indexOf p_a p_b post) : xM l yX1_indexOf wsX1_indexOf ({ frames := 1, cells := 0, slots := 0, locals := 20 } : Room) g sz [] [.int p_a, .int p_b] (q_X1_indexOf g   post) 0 0 := by
  refine xmet (cc := cX1_indexOf) (maxL := 2) (ret := (some .int)) (by decide) rfl (Nat.le_of_ble_eq_true rfl) ?_
  intro p e s m args below meth c A ls H locs C0 hP hD hS hl
  obtain ⟨hx, hb, hr, hml, hown, hin, hts, hlocks, hA, hK, hZ⟩ := id C0
  have hown : s.vm.findClass RX1 = some m.cls := hown
  have hl : lv_has ls 2 [(0, .int p_a), (1, .int p_b)] := hl
  unfold wp_X1_indexOf at h
  refine lv_iload_n hx hb dX1_indexOf_0 rfl (lv_at hl 0 rfl) ?_
  refine lv_iload_n hx hb dX1_indexOf_1 rfl (lv_at hl 1 rfl) ?_
  refine lv_icmp_ge (tgt := 14) hx hb dX1_indexOf_2 (by decide) (fun c1 => ?_) (fun c1 => ?_)
  · have h := h.1 c1
    refine lv_iload_n hx hb dX1_indexOf_14 rfl (lv_at hl 0 rfl) ?_
    refine xi (wr := []) (xrS (As := [.int p_a]) (rest := []) C0 hl.1 (c_X1_among l g _  p_a _ h) (va_cwS 1 hts gX1_indexOf_X1_among rfl rfl rfl (by decide +kernel) ⟨Nat.le_of_ble_eq_true rfl, Nat.le_of_ble_eq_true rfl⟩) rfl rfl (Nat.le_of_ble_eq_true rfl) dX1_indexOf_15 ⟨Nat.le_of_ble_eq_true rfl, Nat.le_of_ble_eq_true rfl⟩) C0 hP hD hS [] [] (by decide) rfl rfl rfl (by decide) (by decide) (fun r2 u H locs h hP hD hS => ?_)
    have hP : va_P g.1 vwCl [] H := hP
    have hD : va_D A [] := hD
    refine lv_iload_n hx hb dX1_indexOf_18 rfl (lv_at hl 1 rfl) ?_
    refine lv_iadd hx hb dX1_indexOf_19 ?_
    exact xreti () C0 hP hD hS h dX1_indexOf_20
  · have h := h.2 c1
    refine lv_iload_n hx hb dX1_indexOf_5 rfl (lv_at hl 1 rfl) ?_
    refine xi (wr := []) (xrS (As := [.int p_b]) (rest := []) C0 hl.1 (c_X1_among l g _  p_b _ h) (va_cwS 1 hts gX1_indexOf_X1_among rfl rfl rfl (by decide +kernel) ⟨Nat.le_of_ble_eq_true rfl, Nat.le_of_ble_eq_true rfl⟩) rfl rfl (Nat.le_of_ble_eq_true rfl) dX1_indexOf_6 ⟨Nat.le_of_ble_eq_true rfl, Nat.le_of_ble_eq_true rfl⟩) C0 hP hD hS [] [] (by decide) rfl rfl rfl (by decide) (by decide) (fun r3 u H locs h hP hD hS => ?_)
    have hP : va_P g.1 vwCl [] H := hP
    have hD : va_D A [] := hD
    refine lv_iload_n hx hb dX1_indexOf_9 rfl (lv_at hl 0 rfl) ?_
    refine lv_iadd hx hb dX1_indexOf_10 ?_
    refine lv_goto (tgt := 20) hx hb dX1_indexOf_11 (by decide) ?_
    exact xreti () C0 hP hD hS h dX1_indexOf_20

def wp_X1_low (p_p : Int32) (f_lo : Nat → Int32) (post : Int32 → Prop) : Prop := ((p_p < 0 → post (0 : Int32) ) ∧ (¬ p_p < 0 → (((15 : Int32) ≤ p_p → post (0 : Int32) ) ∧ (¬ (15 : Int32) ≤ p_p → (vp_in p_p 15 ∧ post (f_lo p_p.toNatClampNeg) )))))
abbrev q_X1_low (g : xG) (a_pr : Nat) (a_lo : Nat) (a_hi : Nat) (a_st : Nat) (f_lo : Nat → Int32) (f_hi : Nat → Int32) (f_st : Nat → Int32) (post : Int32 → Prop) : (Nat → Prop) → Array Value → State → Outcome → State → Prop := xQi g (fun (r : Int32) (u : Unit) => post r ) (fun (_ : Unit) => [(a_pr, .inr (1, [.ref a_lo, .ref a_hi, .ref a_st])), (a_lo, .inl (xcI g, 15, .inl f_lo)), (a_hi, .inl (xcI g, 15, .inl f_hi)), (a_st, .inl (xcI g, 6, .inl f_st))])
theorem in_X1_low_X1 : ∀ w ∈ u_ws RX1 TX1 3, w ∈ wsX1_low := by decide +kernel
set_option maxHeartbeats 1000000 in
set_option maxRecDepth 100000 in
theorem c_X1_low (l : Launch) (g : xG) (sz : Nat) (a_pr : Nat) (a_lo : Nat) (a_hi : Nat) (a_st : Nat) (p_p : Int32) (f_lo : Nat → Int32) (f_hi : Nat → Int32) (f_st : Nat → Int32) (post : Int32 → Prop) (h : wp_X1_low p_p f_lo post) : xM l yX1_low wsX1_low ({ frames := 0, cells := 0, slots := 0, locals := 0 } : Room) g sz [(a_pr, .inr (1, [.ref a_lo, .ref a_hi, .ref a_st])), (a_lo, .inl (xcI g, 15, .inl f_lo)), (a_hi, .inl (xcI g, 15, .inl f_hi)), (a_st, .inl (xcI g, 6, .inl f_st))] [.ref a_pr, .int p_p] (q_X1_low g a_pr a_lo a_hi a_st f_lo f_hi f_st post) 0 0 := by
  refine xmet (cc := cX1_low) (maxL := 2) (ret := (some .int)) (by decide) rfl (Nat.le_of_ble_eq_true rfl) ?_
  intro p e s m args below meth c A ls H locs C0 hP hD hS hl
  obtain ⟨hx, hb, hr, hml, hown, hin, hts, hlocks, hA, hK, hZ⟩ := id C0
  have hown : s.vm.findClass RX1 = some m.cls := hown
  have hl : lv_has ls 2 [(0, .ref a_pr), (1, .int p_p)] := hl
  unfold wp_X1_low at h
  refine lv_iload_n hx hb dX1_low_0 rfl (lv_at hl 1 rfl) ?_
  refine lv_if_lt (tgt := 19) hx hb dX1_low_1 (by decide) (fun c1 => ?_) (fun c1 => ?_)
  · have h := h.1 c1
    refine lv_iconst (v := 0) hx hb dX1_low_19 (by decide) ?_
    exact xreti () C0 hP hD hS h dX1_low_20
  · have h := h.2 c1
    refine lv_iload_n hx hb dX1_low_4 rfl (lv_at hl 1 rfl) ?_
    refine lv_bipush (v := 15) hx hb dX1_low_5 (by decide) ?_
    refine lv_icmp_ge (tgt := 19) hx hb dX1_low_7 (by decide) (fun c2 => ?_) (fun c2 => ?_)
    · have h := h.1 c2
      refine lv_iconst (v := 0) hx hb dX1_low_19 (by decide) ?_
      exact xreti () C0 hP hD hS h dX1_low_20
    · have h := h.2 c2
      refine lv_aload_n hx hb dX1_low_10 rfl (lv_at hl 0 rfl) ?_
      refine va_get (D := g.1) (ci := 1) (v := .ref a_lo) (C := RX1) (T := TX1) (N := 3) hx hb hts in_X1_low_X1 hown hK hP 0 rfl rfl 0 (by decide) (hts (.fieldLink RX1 9 "RandomModels$Pairs" "lows" "[I") (by decide +kernel)) (fun _ h9 => h9) rfl dX1_low_11 ?_
      refine lv_iload_n hx hb dX1_low_14 rfl (lv_at hl 1 rfl) ?_
      obtain ⟨c3, h⟩ := h
      refine va_iald hx hb hK hP 1 0 rfl rfl c3 dX1_low_15 ?_
      refine lv_goto (tgt := 20) hx hb dX1_low_16 (by decide) ?_
      exact xreti () C0 hP hD hS h dX1_low_20

def wp_X1_high (p_p : Int32) (f_hi : Nat → Int32) (post : Int32 → Prop) : Prop := ((p_p < 0 → post (1 : Int32) ) ∧ (¬ p_p < 0 → (((15 : Int32) ≤ p_p → post (1 : Int32) ) ∧ (¬ (15 : Int32) ≤ p_p → (vp_in p_p 15 ∧ post (f_hi p_p.toNatClampNeg) )))))
abbrev q_X1_high (g : xG) (a_pr : Nat) (a_lo : Nat) (a_hi : Nat) (a_st : Nat) (f_lo : Nat → Int32) (f_hi : Nat → Int32) (f_st : Nat → Int32) (post : Int32 → Prop) : (Nat → Prop) → Array Value → State → Outcome → State → Prop := xQi g (fun (r : Int32) (u : Unit) => post r ) (fun (_ : Unit) => [(a_pr, .inr (1, [.ref a_lo, .ref a_hi, .ref a_st])), (a_lo, .inl (xcI g, 15, .inl f_lo)), (a_hi, .inl (xcI g, 15, .inl f_hi)), (a_st, .inl (xcI g, 6, .inl f_st))])
theorem in_X1_high_X1 : ∀ w ∈ u_ws RX1 TX1 3, w ∈ wsX1_high := by decide +kernel
set_option maxHeartbeats 1000000 in
set_option maxRecDepth 100000 in
theorem c_X1_high (l : Launch) (g : xG) (sz : Nat) (a_pr : Nat) (a_lo : Nat) (a_hi : Nat) (a_st : Nat) (p_p : Int32) (f_lo : Nat → Int32) (f_hi : Nat → Int32) (f_st : Nat → Int32) (post : Int32 → Prop) (h : wp_X1_high p_p f_hi post) : xM l yX1_high wsX1_high ({ frames := 0, cells := 0, slots := 0, locals := 0 } : Room) g sz [(a_pr, .inr (1, [.ref a_lo, .ref a_hi, .ref a_st])), (a_lo, .inl (xcI g, 15, .inl f_lo)), (a_hi, .inl (xcI g, 15, .inl f_hi)), (a_st, .inl (xcI g, 6, .inl f_st))] [.ref a_pr, .int p_p] (q_X1_high g a_pr a_lo a_hi a_st f_lo f_hi f_st post) 0 0 := by
  refine xmet (cc := cX1_high) (maxL := 2) (ret := (some .int)) (by decide) rfl (Nat.le_of_ble_eq_true rfl) ?_
  intro p e s m args below meth c A ls H locs C0 hP hD hS hl
  obtain ⟨hx, hb, hr, hml, hown, hin, hts, hlocks, hA, hK, hZ⟩ := id C0
  have hown : s.vm.findClass RX1 = some m.cls := hown
  have hl : lv_has ls 2 [(0, .ref a_pr), (1, .int p_p)] := hl
  unfold wp_X1_high at h
  refine lv_iload_n hx hb dX1_high_0 rfl (lv_at hl 1 rfl) ?_
  refine lv_if_lt (tgt := 19) hx hb dX1_high_1 (by decide) (fun c1 => ?_) (fun c1 => ?_)
  · have h := h.1 c1
    refine lv_iconst (v := 1) hx hb dX1_high_19 (by decide) ?_
    exact xreti () C0 hP hD hS h dX1_high_20
  · have h := h.2 c1
    refine lv_iload_n hx hb dX1_high_4 rfl (lv_at hl 1 rfl) ?_
    refine lv_bipush (v := 15) hx hb dX1_high_5 (by decide) ?_
    refine lv_icmp_ge (tgt := 19) hx hb dX1_high_7 (by decide) (fun c2 => ?_) (fun c2 => ?_)
    · have h := h.1 c2
      refine lv_iconst (v := 1) hx hb dX1_high_19 (by decide) ?_
      exact xreti () C0 hP hD hS h dX1_high_20
    · have h := h.2 c2
      refine lv_aload_n hx hb dX1_high_10 rfl (lv_at hl 0 rfl) ?_
      refine va_get (D := g.1) (ci := 1) (v := .ref a_hi) (C := RX1) (T := TX1) (N := 3) hx hb hts in_X1_high_X1 hown hK hP 0 rfl rfl 1 (by decide) (hts (.fieldLink RX1 15 "RandomModels$Pairs" "highs" "[I") (by decide +kernel)) (fun _ h9 => h9) rfl dX1_high_11 ?_
      refine lv_iload_n hx hb dX1_high_14 rfl (lv_at hl 1 rfl) ?_
      obtain ⟨c3, h⟩ := h
      refine va_iald hx hb hK hP 2 0 rfl rfl c3 dX1_high_15 ?_
      refine lv_goto (tgt := 20) hx hb dX1_high_16 (by decide) ?_
      exact xreti () C0 hP hD hS h dX1_high_20

def wp_X1_degree (p_graph : Int32) (p_node : Int32) (f_st : Nat → Int32) (post : Int32 → Prop) : Prop := ((p_node < 0 → post (0 : Int32) ) ∧ (¬ p_node < 0 → (((6 : Int32) ≤ p_node → post (0 : Int32) ) ∧ (¬ (6 : Int32) ≤ p_node → (vp_in p_node 6 ∧ wp_J6_bitCount_0f7a4 (p_graph &&& (f_st p_node.toNatClampNeg)) (fun r4 => post r4 ))))))
abbrev q_X1_degree (g : xG) (a_pr : Nat) (a_lo : Nat) (a_hi : Nat) (a_st : Nat) (f_lo : Nat → Int32) (f_hi : Nat → Int32) (f_st : Nat → Int32) (post : Int32 → Prop) : (Nat → Prop) → Array Value → State → Outcome → State → Prop := xQi g (fun (r : Int32) (u : Unit) => post r ) (fun (_ : Unit) => [(a_pr, .inr (1, [.ref a_lo, .ref a_hi, .ref a_st])), (a_lo, .inl (xcI g, 15, .inl f_lo)), (a_hi, .inl (xcI g, 15, .inl f_hi)), (a_st, .inl (xcI g, 6, .inl f_st))])
theorem in_X1_degree_X1 : ∀ w ∈ u_ws RX1 TX1 3, w ∈ wsX1_degree := by decide +kernel
set_option maxHeartbeats 1000000 in
set_option maxRecDepth 100000 in
theorem c_X1_degree (l : Launch) (g : xG) (sz : Nat) (a_pr : Nat) (a_lo : Nat) (a_hi : Nat) (a_st : Nat) (p_graph : Int32) (p_node : Int32) (f_lo : Nat → Int32) (f_hi : Nat → Int32) (f_st : Nat → Int32) (post : Int32 → Prop) (h : wp_X1_degree p_graph p_node f_st post) : xM l yX1_degree wsX1_degree ({ frames := 1, cells := 0, slots := 0, locals := 20 } : Room) g sz [(a_pr, .inr (1, [.ref a_lo, .ref a_hi, .ref a_st])), (a_lo, .inl (xcI g, 15, .inl f_lo)), (a_hi, .inl (xcI g, 15, .inl f_hi)), (a_st, .inl (xcI g, 6, .inl f_st))] [.ref a_pr, .int p_graph, .int p_node] (q_X1_degree g a_pr a_lo a_hi a_st f_lo f_hi f_st post) 0 0 := by
  refine xmet (cc := cX1_degree) (maxL := 3) (ret := (some .int)) (by decide) rfl (Nat.le_of_ble_eq_true rfl) ?_
  intro p e s m args below meth c A ls H locs C0 hP hD hS hl
  obtain ⟨hx, hb, hr, hml, hown, hin, hts, hlocks, hA, hK, hZ⟩ := id C0
  have hown : s.vm.findClass RX1 = some m.cls := hown
  have hl : lv_has ls 3 [(0, .ref a_pr), (1, .int p_graph), (2, .int p_node)] := hl
  unfold wp_X1_degree at h
  refine lv_iload_n hx hb dX1_degree_0 rfl (lv_at hl 2 rfl) ?_
  refine lv_if_lt (tgt := 24) hx hb dX1_degree_1 (by decide) (fun c1 => ?_) (fun c1 => ?_)
  · have h := h.1 c1
    refine lv_iconst (v := 0) hx hb dX1_degree_24 (by decide) ?_
    exact xreti () C0 hP hD hS h dX1_degree_25
  · have h := h.2 c1
    refine lv_iload_n hx hb dX1_degree_4 rfl (lv_at hl 2 rfl) ?_
    refine lv_bipush (v := 6) hx hb dX1_degree_5 (by decide) ?_
    refine lv_icmp_ge (tgt := 24) hx hb dX1_degree_7 (by decide) (fun c2 => ?_) (fun c2 => ?_)
    · have h := h.1 c2
      refine lv_iconst (v := 0) hx hb dX1_degree_24 (by decide) ?_
      exact xreti () C0 hP hD hS h dX1_degree_25
    · have h := h.2 c2
      refine lv_iload_n hx hb dX1_degree_10 rfl (lv_at hl 1 rfl) ?_
      refine lv_aload_n hx hb dX1_degree_11 rfl (lv_at hl 0 rfl) ?_
      refine va_get (D := g.1) (ci := 1) (v := .ref a_st) (C := RX1) (T := TX1) (N := 3) hx hb hts in_X1_degree_X1 hown hK hP 0 rfl rfl 2 (by decide) (hts (.fieldLink RX1 18 "RandomModels$Pairs" "stars" "[I") (by decide +kernel)) (fun _ h9 => h9) rfl dX1_degree_12 ?_
      refine lv_iload_n hx hb dX1_degree_15 rfl (lv_at hl 2 rfl) ?_
      obtain ⟨c3, h⟩ := h
      refine va_iald hx hb hK hP 3 0 rfl rfl c3 dX1_degree_16 ?_
      refine lv_iand hx hb dX1_degree_17 ?_
      refine xi (wr := [(a_pr, .inr (1, [.ref a_lo, .ref a_hi, .ref a_st])), (a_lo, .inl (xcI g, 15, .inl f_lo)), (a_hi, .inl (xcI g, 15, .inl f_hi)), (a_st, .inl (xcI g, 6, .inl f_st))]) (xrS (As := [.int (p_graph &&& (f_st p_node.toNatClampNeg))]) (rest := []) C0 hl.1 (c_J6_bitCount_0f7a4 l g _  (p_graph &&& (f_st p_node.toNatClampNeg)) _ h) (va_cwS 1 hts gX1_degree_J6_bitCount_0f7a4 rfl rfl rfl (by decide +kernel) ⟨Nat.le_of_ble_eq_true rfl, Nat.le_of_ble_eq_true rfl⟩) rfl rfl (Nat.le_of_ble_eq_true rfl) dX1_degree_18 ⟨Nat.le_of_ble_eq_true rfl, Nat.le_of_ble_eq_true rfl⟩) C0 hP hD hS [] [0, 1, 2, 3] (by decide) rfl rfl rfl (by decide) (by decide) (fun r4 u H locs h hP hD hS => ?_)
      have hP : va_P g.1 vwCl [(a_pr, .inr (1, [.ref a_lo, .ref a_hi, .ref a_st])), (a_lo, .inl (xcI g, 15, .inl f_lo)), (a_hi, .inl (xcI g, 15, .inl f_hi)), (a_st, .inl (xcI g, 6, .inl f_st))] H := hP
      have hD : va_D A [(a_pr, .inr (1, [.ref a_lo, .ref a_hi, .ref a_st])), (a_lo, .inl (xcI g, 15, .inl f_lo)), (a_hi, .inl (xcI g, 15, .inl f_hi)), (a_st, .inl (xcI g, 6, .inl f_st))] := hD
      refine lv_goto (tgt := 25) hx hb dX1_degree_21 (by decide) ?_
      exact xreti () C0 hP hD hS h dX1_degree_25

def b_X1_ofSameLabel_40 (f_lb : Nat → Int32) (post : Int32 → Prop) (k4 : (Int32) → (Int32) → Prop) (k13 : (Int32) → (Int32) → (Int32) → Prop) (x2 : Int32) (x3 : Int32) (x4 : Int32) : Prop := k13 x2 x3 (x4 + 1)
def b_X1_ofSameLabel_13 (f_lb : Nat → Int32) (post : Int32 → Prop) (k4 : (Int32) → (Int32) → Prop) : Nat → (Int32) → (Int32) → (Int32) → Prop
  | 0 => fun x2 x3 x4 => False
  | n13 + 1 => fun x2 x3 x4 => ((x3 ≤ x4 → k4 x2 (x3 + 1)) ∧ (¬ x3 ≤ x4 → (vp_in x4 6 ∧ (vp_in x3 6 ∧ (((f_lb x4.toNatClampNeg) = (f_lb x3.toNatClampNeg) → wp_X1_indexOf x4 x3 (fun r6 => (∀ z7 : Int32, z7 = (x2 ||| ((1 : Int32) <<< (r6 &&& 31))) → b_X1_ofSameLabel_40 f_lb post k4 (b_X1_ofSameLabel_13 f_lb post k4 n13) z7 x3 x4))) ∧ (¬ (f_lb x4.toNatClampNeg) = (f_lb x3.toNatClampNeg) → b_X1_ofSameLabel_40 f_lb post k4 (b_X1_ofSameLabel_13 f_lb post k4 n13) x2 x3 x4))))))
def b_X1_ofSameLabel_4 (f_lb : Nat → Int32) (post : Int32 → Prop) : Nat → (Int32) → (Int32) → Prop
  | 0 => fun x2 x3 => False
  | n4 + 1 => fun x2 x3 => (((Int32.ofNat 6) ≤ x3 → post x2 ) ∧ (¬ (Int32.ofNat 6) ≤ x3 → ∃ n : Nat, b_X1_ofSameLabel_13 f_lb post (b_X1_ofSameLabel_4 f_lb post  n4) n x2 x3 (0 : Int32)))
def wp_X1_ofSameLabel (f_lb : Nat → Int32) (post : Int32 → Prop) : Prop := ∃ n : Nat, b_X1_ofSameLabel_4 f_lb post  n (0 : Int32) (1 : Int32)
abbrev q_X1_ofSameLabel (g : xG) (a_pr : Nat) (a_lo : Nat) (a_hi : Nat) (a_st : Nat) (a_lb : Nat) (f_lo : Nat → Int32) (f_hi : Nat → Int32) (f_st : Nat → Int32) (f_lb : Nat → Int32) (post : Int32 → Prop) : (Nat → Prop) → Array Value → State → Outcome → State → Prop := xQi g (fun (r : Int32) (u : Unit) => post r ) (fun (_ : Unit) => [(a_pr, .inr (1, [.ref a_lo, .ref a_hi, .ref a_st])), (a_lo, .inl (xcI g, 15, .inl f_lo)), (a_hi, .inl (xcI g, 15, .inl f_hi)), (a_st, .inl (xcI g, 6, .inl f_st)), (a_lb, .inl (xcI g, 6, .inl f_lb))])
set_option maxHeartbeats 1000000 in
set_option maxRecDepth 100000 in
theorem w_X1_ofSameLabel_40 {p : Program} {l : Launch} {e : Env} {s : State} {m : MethodId} {args : Array Value} {below : List Frame} {meth : Method} {c : Code} {A : Nat → Prop} {g : xG} (C0 : vx g p s m args meth c cX1_ofSameLabel (some .int) 5 yX1_ofSameLabel wsX1_ofSameLabel A) (a_pr : Nat) (a_lo : Nat) (a_hi : Nat) (a_st : Nat) (a_lb : Nat) (f_lo : Nat → Int32) (f_hi : Nat → Int32) (f_st : Nat → Int32) (f_lb : Nat → Int32) (post : Int32 → Prop) (k4 : (Int32) → (Int32) → Prop) (k13 : (Int32) → (Int32) → (Int32) → Prop) (hk4 : ∀ (x2 : Int32) (x3 : Int32) {H : Heap} {locs : List Loc} {ls : Array Slot}, va_P g.1 vwCl [(a_pr, .inr (1, [.ref a_lo, .ref a_hi, .ref a_st])), (a_lo, .inl (xcI g, 15, .inl f_lo)), (a_hi, .inl (xcI g, 15, .inl f_hi)), (a_st, .inl (xcI g, 6, .inl f_st)), (a_lb, .inl (xcI g, 6, .inl f_lb))] H → va_D A [(a_pr, .inr (1, [.ref a_lo, .ref a_hi, .ref a_st])), (a_lo, .inl (xcI g, 15, .inl f_lo)), (a_hi, .inl (xcI g, 15, .inl f_hi)), (a_st, .inl (xcI g, 6, .inl f_st)), (a_lb, .inl (xcI g, 6, .inl f_lb))] → va_S A s.heap H locs → lv_has ls 5 [(1, .ref a_lb), (2, .int x2), (3, .int x3)] → k4 x2 x3 → W p l e ({ frames := 2, cells := 0, slots := 0, locals := 41 } : Room) s m args below meth c H locs 0 0 (MQ below ((q_X1_ofSameLabel g a_pr a_lo a_hi a_st a_lb f_lo f_hi f_st f_lb post) A) args s 0 0 A) (F0 m 4 ls [])) (hk13 : ∀ (x2 : Int32) (x3 : Int32) (x4 : Int32) {H : Heap} {locs : List Loc} {ls : Array Slot}, va_P g.1 vwCl [(a_pr, .inr (1, [.ref a_lo, .ref a_hi, .ref a_st])), (a_lo, .inl (xcI g, 15, .inl f_lo)), (a_hi, .inl (xcI g, 15, .inl f_hi)), (a_st, .inl (xcI g, 6, .inl f_st)), (a_lb, .inl (xcI g, 6, .inl f_lb))] H → va_D A [(a_pr, .inr (1, [.ref a_lo, .ref a_hi, .ref a_st])), (a_lo, .inl (xcI g, 15, .inl f_lo)), (a_hi, .inl (xcI g, 15, .inl f_hi)), (a_st, .inl (xcI g, 6, .inl f_st)), (a_lb, .inl (xcI g, 6, .inl f_lb))] → va_S A s.heap H locs → lv_has ls 5 [(1, .ref a_lb), (2, .int x2), (3, .int x3), (4, .int x4)] → k13 x2 x3 x4 → W p l e ({ frames := 2, cells := 0, slots := 0, locals := 41 } : Room) s m args below meth c H locs 0 0 (MQ below ((q_X1_ofSameLabel g a_pr a_lo a_hi a_st a_lb f_lo f_hi f_st f_lb post) A) args s 0 0 A) (F0 m 13 ls [])) (x2 : Int32) (x3 : Int32) (x4 : Int32) {H : Heap} {locs : List Loc} {ls : Array Slot} (hP : va_P g.1 vwCl [(a_pr, .inr (1, [.ref a_lo, .ref a_hi, .ref a_st])), (a_lo, .inl (xcI g, 15, .inl f_lo)), (a_hi, .inl (xcI g, 15, .inl f_hi)), (a_st, .inl (xcI g, 6, .inl f_st)), (a_lb, .inl (xcI g, 6, .inl f_lb))] H) (hD : va_D A [(a_pr, .inr (1, [.ref a_lo, .ref a_hi, .ref a_st])), (a_lo, .inl (xcI g, 15, .inl f_lo)), (a_hi, .inl (xcI g, 15, .inl f_hi)), (a_st, .inl (xcI g, 6, .inl f_st)), (a_lb, .inl (xcI g, 6, .inl f_lb))]) (hS : va_S A s.heap H locs) (hl : lv_has ls 5 [(1, .ref a_lb), (2, .int x2), (3, .int x3), (4, .int x4)]) (h : b_X1_ofSameLabel_40 f_lb post k4 k13 x2 x3 x4) : W p l e ({ frames := 2, cells := 0, slots := 0, locals := 41 } : Room) s m args below meth c H locs 0 0 (MQ below ((q_X1_ofSameLabel g a_pr a_lo a_hi a_st a_lb f_lo f_hi f_st f_lb post) A) args s 0 0 A) (F0 m 40 ls []) := by
  obtain ⟨hx, hb, hr, hml, hown, hin, hts, hlocks, hA, hK, hZ⟩ := id C0
  have hown : s.vm.findClass RX1 = some m.cls := hown
  unfold b_X1_ofSameLabel_40 at h
  refine lv_iinc (v := (x4 + 1)) (lv' := [(4, .int (x4 + 1)), (1, .ref a_lb), (2, .int x2), (3, .int x3)]) hx hb dX1_ofSameLabel_40 hl (k := 3) rfl rfl (by decide) rfl (fun ls hl => ?_)
  refine lv_goto (tgt := 13) hx hb dX1_ofSameLabel_43 (by decide) ?_
  exact hk13  x2 x3 (x4 + 1) hP hD hS (lv_sub hl [1, 2, 3, 0] rfl) h
set_option maxHeartbeats 1000000 in
set_option maxRecDepth 100000 in
theorem w_X1_ofSameLabel_13 {p : Program} {l : Launch} {e : Env} {s : State} {m : MethodId} {args : Array Value} {below : List Frame} {meth : Method} {c : Code} {A : Nat → Prop} {g : xG} (C0 : vx g p s m args meth c cX1_ofSameLabel (some .int) 5 yX1_ofSameLabel wsX1_ofSameLabel A) (a_pr : Nat) (a_lo : Nat) (a_hi : Nat) (a_st : Nat) (a_lb : Nat) (f_lo : Nat → Int32) (f_hi : Nat → Int32) (f_st : Nat → Int32) (f_lb : Nat → Int32) (post : Int32 → Prop) (k4 : (Int32) → (Int32) → Prop) (hk4 : ∀ (x2 : Int32) (x3 : Int32) {H : Heap} {locs : List Loc} {ls : Array Slot}, va_P g.1 vwCl [(a_pr, .inr (1, [.ref a_lo, .ref a_hi, .ref a_st])), (a_lo, .inl (xcI g, 15, .inl f_lo)), (a_hi, .inl (xcI g, 15, .inl f_hi)), (a_st, .inl (xcI g, 6, .inl f_st)), (a_lb, .inl (xcI g, 6, .inl f_lb))] H → va_D A [(a_pr, .inr (1, [.ref a_lo, .ref a_hi, .ref a_st])), (a_lo, .inl (xcI g, 15, .inl f_lo)), (a_hi, .inl (xcI g, 15, .inl f_hi)), (a_st, .inl (xcI g, 6, .inl f_st)), (a_lb, .inl (xcI g, 6, .inl f_lb))] → va_S A s.heap H locs → lv_has ls 5 [(1, .ref a_lb), (2, .int x2), (3, .int x3)] → k4 x2 x3 → W p l e ({ frames := 2, cells := 0, slots := 0, locals := 41 } : Room) s m args below meth c H locs 0 0 (MQ below ((q_X1_ofSameLabel g a_pr a_lo a_hi a_st a_lb f_lo f_hi f_st f_lb post) A) args s 0 0 A) (F0 m 4 ls [])) : ∀ (n : Nat) (x2 : Int32) (x3 : Int32) (x4 : Int32) {H : Heap} {locs : List Loc} {ls : Array Slot}, va_P g.1 vwCl [(a_pr, .inr (1, [.ref a_lo, .ref a_hi, .ref a_st])), (a_lo, .inl (xcI g, 15, .inl f_lo)), (a_hi, .inl (xcI g, 15, .inl f_hi)), (a_st, .inl (xcI g, 6, .inl f_st)), (a_lb, .inl (xcI g, 6, .inl f_lb))] H → va_D A [(a_pr, .inr (1, [.ref a_lo, .ref a_hi, .ref a_st])), (a_lo, .inl (xcI g, 15, .inl f_lo)), (a_hi, .inl (xcI g, 15, .inl f_hi)), (a_st, .inl (xcI g, 6, .inl f_st)), (a_lb, .inl (xcI g, 6, .inl f_lb))] → va_S A s.heap H locs → lv_has ls 5 [(1, .ref a_lb), (2, .int x2), (3, .int x3), (4, .int x4)] → b_X1_ofSameLabel_13 f_lb post k4 n x2 x3 x4 → W p l e ({ frames := 2, cells := 0, slots := 0, locals := 41 } : Room) s m args below meth c H locs 0 0 (MQ below ((q_X1_ofSameLabel g a_pr a_lo a_hi a_st a_lb f_lo f_hi f_st f_lb post) A) args s 0 0 A) (F0 m 13 ls []) := by
  obtain ⟨hx, hb, hr, hml, hown, hin, hts, hlocks, hA, hK, hZ⟩ := id C0
  have hown : s.vm.findClass RX1 = some m.cls := hown
  intro n
  induction n with
  | zero =>
    intro  x2 x3 x4 H locs ls hP hD hS hl h
    exact False.elim h
  | succ n13 hk13 =>
    intro  x2 x3 x4 H locs ls hP hD hS hl h
    unfold b_X1_ofSameLabel_13 at h
    refine lv_iload hx hb dX1_ofSameLabel_13 (lv_at hl 3 rfl) ?_
    refine lv_iload_n hx hb dX1_ofSameLabel_15 rfl (lv_at hl 2 rfl) ?_
    refine lv_icmp_ge (tgt := 46) hx hb dX1_ofSameLabel_16 (by decide) (fun c2 => ?_) (fun c2 => ?_)
    · have h := h.1 c2
      refine lv_iinc (v := (x3 + 1)) (lv' := [(3, .int (x3 + 1)), (1, .ref a_lb), (2, .int x2), (4, .int x4)]) hx hb dX1_ofSameLabel_46 hl (k := 2) rfl rfl (by decide) rfl (fun ls hl => ?_)
      refine lv_goto (tgt := 4) hx hb dX1_ofSameLabel_49 (by decide) ?_
      exact hk4  x2 (x3 + 1) hP hD hS (lv_sub hl [1, 2, 0] rfl) h
    · have h := h.2 c2
      refine lv_aload_n hx hb dX1_ofSameLabel_19 rfl (lv_at hl 0 rfl) ?_
      refine lv_iload hx hb dX1_ofSameLabel_20 (lv_at hl 3 rfl) ?_
      obtain ⟨c3, h⟩ := h
      refine va_iald hx hb hK hP 4 0 rfl rfl c3 dX1_ofSameLabel_22 ?_
      refine lv_aload_n hx hb dX1_ofSameLabel_23 rfl (lv_at hl 0 rfl) ?_
      refine lv_iload_n hx hb dX1_ofSameLabel_24 rfl (lv_at hl 2 rfl) ?_
      obtain ⟨c4, h⟩ := h
      refine va_iald hx hb hK hP 4 0 rfl rfl c4 dX1_ofSameLabel_25 ?_
      refine lv_icmp_ne (tgt := 40) hx hb dX1_ofSameLabel_26 (by decide) (fun c5 => ?_) (fun c5 => ?_)
      · have h := h.2 c5
        exact w_X1_ofSameLabel_40 C0 a_pr a_lo a_hi a_st a_lb f_lo f_hi f_st f_lb post k4 (b_X1_ofSameLabel_13 f_lb post k4 n13) hk4 hk13  x2 x3 x4 hP hD hS (lv_sub hl [0, 1, 2, 3] rfl) h
      · have h := h.1 c5
        refine lv_iload_n hx hb dX1_ofSameLabel_29 rfl (lv_at hl 1 rfl) ?_
        refine lv_iconst (v := 1) hx hb dX1_ofSameLabel_30 (by decide) ?_
        refine lv_iload hx hb dX1_ofSameLabel_31 (lv_at hl 3 rfl) ?_
        refine lv_iload_n hx hb dX1_ofSameLabel_33 rfl (lv_at hl 2 rfl) ?_
        refine xi (wr := [(a_pr, .inr (1, [.ref a_lo, .ref a_hi, .ref a_st])), (a_lo, .inl (xcI g, 15, .inl f_lo)), (a_hi, .inl (xcI g, 15, .inl f_hi)), (a_st, .inl (xcI g, 6, .inl f_st)), (a_lb, .inl (xcI g, 6, .inl f_lb))]) (xrS (As := [.int x4, .int x3]) (rest := [.int (1 : Int32), .int x2]) C0 hl.1 (c_X1_indexOf l g _  x4 x3 _ h) (va_cwS 2 hts gX1_ofSameLabel_X1_indexOf rfl rfl rfl (by decide +kernel) ⟨Nat.le_of_ble_eq_true rfl, Nat.le_of_ble_eq_true rfl⟩) rfl rfl (Nat.le_of_ble_eq_true rfl) dX1_ofSameLabel_34 ⟨Nat.le_of_ble_eq_true rfl, Nat.le_of_ble_eq_true rfl⟩) C0 hP hD hS [] [0, 1, 2, 3, 4] (by decide) rfl rfl rfl (by decide) (by decide) (fun r6 u H locs h hP hD hS => ?_)
        have hP : va_P g.1 vwCl [(a_pr, .inr (1, [.ref a_lo, .ref a_hi, .ref a_st])), (a_lo, .inl (xcI g, 15, .inl f_lo)), (a_hi, .inl (xcI g, 15, .inl f_hi)), (a_st, .inl (xcI g, 6, .inl f_st)), (a_lb, .inl (xcI g, 6, .inl f_lb))] H := hP
        have hD : va_D A [(a_pr, .inr (1, [.ref a_lo, .ref a_hi, .ref a_st])), (a_lo, .inl (xcI g, 15, .inl f_lo)), (a_hi, .inl (xcI g, 15, .inl f_hi)), (a_st, .inl (xcI g, 6, .inl f_st)), (a_lb, .inl (xcI g, 6, .inl f_lb))] := hD
        refine lv_ishl hx hb dX1_ofSameLabel_37 ?_
        refine lv_ior hx hb dX1_ofSameLabel_38 ?_
        refine lv_topi (fun z7 ez7 => ?_)
        have h := h z7 ez7
        refine lv_istore_n (lv' := [(2, .int z7), (1, .ref a_lb), (3, .int x3), (4, .int x4)]) hx hb dX1_ofSameLabel_39 rfl hl (by decide) rfl (fun ls hl => ?_)
        exact w_X1_ofSameLabel_40 C0 a_pr a_lo a_hi a_st a_lb f_lo f_hi f_st f_lb post k4 (b_X1_ofSameLabel_13 f_lb post k4 n13) hk4 hk13  z7 x3 x4 hP hD hS (lv_sub hl [1, 0, 2, 3] rfl) h
set_option maxHeartbeats 1000000 in
set_option maxRecDepth 100000 in
theorem w_X1_ofSameLabel_4 {p : Program} {l : Launch} {e : Env} {s : State} {m : MethodId} {args : Array Value} {below : List Frame} {meth : Method} {c : Code} {A : Nat → Prop} {g : xG} (C0 : vx g p s m args meth c cX1_ofSameLabel (some .int) 5 yX1_ofSameLabel wsX1_ofSameLabel A) (a_pr : Nat) (a_lo : Nat) (a_hi : Nat) (a_st : Nat) (a_lb : Nat) (f_lo : Nat → Int32) (f_hi : Nat → Int32) (f_st : Nat → Int32) (f_lb : Nat → Int32) (post : Int32 → Prop) : ∀ (n : Nat) (x2 : Int32) (x3 : Int32) {H : Heap} {locs : List Loc} {ls : Array Slot}, va_P g.1 vwCl [(a_pr, .inr (1, [.ref a_lo, .ref a_hi, .ref a_st])), (a_lo, .inl (xcI g, 15, .inl f_lo)), (a_hi, .inl (xcI g, 15, .inl f_hi)), (a_st, .inl (xcI g, 6, .inl f_st)), (a_lb, .inl (xcI g, 6, .inl f_lb))] H → va_D A [(a_pr, .inr (1, [.ref a_lo, .ref a_hi, .ref a_st])), (a_lo, .inl (xcI g, 15, .inl f_lo)), (a_hi, .inl (xcI g, 15, .inl f_hi)), (a_st, .inl (xcI g, 6, .inl f_st)), (a_lb, .inl (xcI g, 6, .inl f_lb))] → va_S A s.heap H locs → lv_has ls 5 [(1, .ref a_lb), (2, .int x2), (3, .int x3)] → b_X1_ofSameLabel_4 f_lb post  n x2 x3 → W p l e ({ frames := 2, cells := 0, slots := 0, locals := 41 } : Room) s m args below meth c H locs 0 0 (MQ below ((q_X1_ofSameLabel g a_pr a_lo a_hi a_st a_lb f_lo f_hi f_st f_lb post) A) args s 0 0 A) (F0 m 4 ls []) := by
  obtain ⟨hx, hb, hr, hml, hown, hin, hts, hlocks, hA, hK, hZ⟩ := id C0
  have hown : s.vm.findClass RX1 = some m.cls := hown
  intro n
  induction n with
  | zero =>
    intro  x2 x3 H locs ls hP hD hS hl h
    exact False.elim h
  | succ n4 hk4 =>
    intro  x2 x3 H locs ls hP hD hS hl h
    unfold b_X1_ofSameLabel_4 at h
    refine lv_iload_n hx hb dX1_ofSameLabel_4 rfl (lv_at hl 2 rfl) ?_
    refine lv_aload_n hx hb dX1_ofSameLabel_5 rfl (lv_at hl 0 rfl) ?_
    refine va_alen (v := Int32.ofNat 6) hx hb hK hP 4 0 rfl rfl rfl dX1_ofSameLabel_6 ?_
    refine lv_icmp_ge (tgt := 52) hx hb dX1_ofSameLabel_7 (by decide) (fun c1 => ?_) (fun c1 => ?_)
    · have h := h.1 c1
      refine lv_iload_n hx hb dX1_ofSameLabel_52 rfl (lv_at hl 1 rfl) ?_
      exact xreti () C0 hP hD hS h dX1_ofSameLabel_53
    · have h := h.2 c1
      refine lv_iconst (v := 0) hx hb dX1_ofSameLabel_10 (by decide) ?_
      refine lv_istore (lv' := [(4, .int (0 : Int32)), (1, .ref a_lb), (2, .int x2), (3, .int x3)]) hx hb dX1_ofSameLabel_11 hl (by decide) rfl (fun ls hl => ?_)
      obtain ⟨n, h⟩ := h
      exact w_X1_ofSameLabel_13 C0 a_pr a_lo a_hi a_st a_lb f_lo f_hi f_st f_lb post (b_X1_ofSameLabel_4 f_lb post  n4) hk4 n  x2 x3 (0 : Int32) hP hD hS (lv_sub hl [1, 2, 3, 0] rfl) h
set_option maxHeartbeats 1000000 in
set_option maxRecDepth 100000 in
theorem c_X1_ofSameLabel (l : Launch) (g : xG) (sz : Nat) (a_pr : Nat) (a_lo : Nat) (a_hi : Nat) (a_st : Nat) (a_lb : Nat) (f_lo : Nat → Int32) (f_hi : Nat → Int32) (f_st : Nat → Int32) (f_lb : Nat → Int32) (post : Int32 → Prop) (h : wp_X1_ofSameLabel f_lb post) : xM l yX1_ofSameLabel wsX1_ofSameLabel ({ frames := 2, cells := 0, slots := 0, locals := 41 } : Room) g sz [(a_pr, .inr (1, [.ref a_lo, .ref a_hi, .ref a_st])), (a_lo, .inl (xcI g, 15, .inl f_lo)), (a_hi, .inl (xcI g, 15, .inl f_hi)), (a_st, .inl (xcI g, 6, .inl f_st)), (a_lb, .inl (xcI g, 6, .inl f_lb))] [.ref a_pr, .ref a_lb] (q_X1_ofSameLabel g a_pr a_lo a_hi a_st a_lb f_lo f_hi f_st f_lb post) 0 0 := by
  refine xmet (cc := cX1_ofSameLabel) (maxL := 5) (ret := (some .int)) (by decide) rfl (Nat.le_of_ble_eq_true rfl) ?_
  intro p e s m args below meth c A ls H locs C0 hP hD hS hl
  obtain ⟨hx, hb, hr, hml, hown, hin, hts, hlocks, hA, hK, hZ⟩ := id C0
  have hown : s.vm.findClass RX1 = some m.cls := hown
  have hl : lv_has ls 5 [(0, .ref a_pr), (1, .ref a_lb)] := hl
  unfold wp_X1_ofSameLabel at h
  refine lv_iconst (v := 0) hx hb dX1_ofSameLabel_0 (by decide) ?_
  refine lv_istore_n (lv' := [(2, .int (0 : Int32)), (0, .ref a_pr), (1, .ref a_lb)]) hx hb dX1_ofSameLabel_1 rfl hl (by decide) rfl (fun ls hl => ?_)
  refine lv_iconst (v := 1) hx hb dX1_ofSameLabel_2 (by decide) ?_
  refine lv_istore_n (lv' := [(3, .int (1 : Int32)), (2, .int (0 : Int32)), (0, .ref a_pr), (1, .ref a_lb)]) hx hb dX1_ofSameLabel_3 rfl hl (by decide) rfl (fun ls hl => ?_)
  obtain ⟨n, h⟩ := h
  exact w_X1_ofSameLabel_4 C0 a_pr a_lo a_hi a_st a_lb f_lo f_hi f_st f_lb post   n  (0 : Int32) (1 : Int32) hP hD hS (lv_sub hl [3, 1, 0] rfl) h

def wp_X0_init (post : (Int64) → Prop) : Prop := post (0 : Int64)
abbrev q_X0_init (g : xG) (a_di : Nat) (post : (Int64) → Prop) : (Nat → Prop) → Array Value → State → Outcome → State → Prop := xQv g (fun (ds : (Int64)) => post ds) (fun (ds : (Int64)) => [(a_di, .inr (0, [.long ds]))])
set_option maxHeartbeats 1000000 in
set_option maxRecDepth 100000 in
theorem c_X0_init (l : Launch) (g : xG) (sz : Nat) (a_di : Nat) (post : (Int64) → Prop) (h : wp_X0_init  post) : xM l yX0_init wsX0_init ({ frames := 1, cells := 0, slots := 0, locals := 12 } : Room) g sz [(a_di, .inr (0, [.long (0 : Int64)]))] [.ref a_di] (q_X0_init g a_di  post) 0 0 := by
  refine xmet (cc := cX0_init) (maxL := 1) (ret := none) (by decide) rfl (Nat.le_of_ble_eq_true rfl) ?_
  intro p e s m args below meth c A ls H locs C0 hP hD hS hl
  obtain ⟨hx, hb, hr, hml, hown, hin, hts, hlocks, hA, hK, hZ⟩ := id C0
  have hown : s.vm.findClass RX0 = some m.cls := hown
  have hl : lv_has ls 1 [(0, .ref a_di)] := hl
  unfold wp_X0_init at h
  refine lv_aload_n hx hb dX0_init_0 rfl (lv_at hl 0 rfl) ?_
  refine W.objInit hx hb hown (hts (.methodLink RX0 1 objectInit) (by decide +kernel)) (hts (.instanceMethod objectInit) (by decide +kernel)) (hts (.code objectInit ⟨#[0xb1]⟩ 1 none) (by decide +kernel)) rfl (by rw [hml]; exact hl.1) rfl dX0_init_1 (Nat.le_of_ble_eq_true rfl) (Nat.le_of_ble_eq_true rfl) ?_
  refine W.eq (g2 := F0 m 4 ls []) rfl ?_
  exact xretv (0 : Int64) C0 hP hD hS h dX0_init_4
