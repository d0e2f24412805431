def b_X3_countWhole_37 (cwn : Nat) (f_cw : Nat → Int32) (post : Int32 → Prop) (k6 : (Int32) → (Int32) → (Int32) → (Int32) → (Int32) → Prop) (x0 : Int32) (x2 : Int32) (x3 : Int32) (x4 : Int32) (x5 : Int32) : Prop := k6 x0 x2 x3 x4 (x5 + 1)
def b_X3_countWhole_6 (cwn : Nat) (f_cw : Nat → Int32) (post : Int32 → Prop) : Nat → (Int32) → (Int32) → (Int32) → (Int32) → (Int32) → Prop
  | 0 => fun x0 x2 x3 x4 x5 => False
  | n6 + 1 => fun x0 x2 x3 x4 x5 => (((x2 + x3) ≤ x5 → post x4 ) ∧ (¬ (x2 + x3) ≤ x5 → (((Int32.ofNat cwn) ≤ x5 → post x4 ) ∧ (¬ (Int32.ofNat cwn) ≤ x5 → (vp_in x5 cwn ∧ (vp_in x5 cwn ∧ (((x0 &&& (f_cw x5.toNatClampNeg)) = (f_cw x5.toNatClampNeg) → b_X3_countWhole_37 cwn f_cw post (b_X3_countWhole_6 cwn f_cw post  n6) x0 x2 x3 (x4 + 1) x5) ∧ (¬ (x0 &&& (f_cw x5.toNatClampNeg)) = (f_cw x5.toNatClampNeg) → b_X3_countWhole_37 cwn f_cw post (b_X3_countWhole_6 cwn f_cw post  n6) x0 x2 x3 x4 x5))))))))
def wp_X3_countWhole (p_graph : Int32) (p_start : Int32) (p_length : Int32) (cwn : Nat) (f_cw : Nat → Int32) (post : Int32 → Prop) : Prop := ∃ n : Nat, b_X3_countWhole_6 cwn f_cw post  n p_graph p_start p_length (0 : Int32) p_start
abbrev q_X3_countWhole (g : xG) (a_cw : Nat) (cwn : Nat) (f_cw : Nat → Int32) (post : Int32 → Prop) : (Nat → Prop) → Array Value → State → Outcome → State → Prop := xQi g (fun (r : Int32) (u : Unit) => post r ) (fun (_ : Unit) => [(a_cw, .inl (xcI g, cwn, .inl f_cw))])
set_option maxHeartbeats 1000000 in
set_option maxRecDepth 100000 in
theorem w_X3_countWhole_37 {p : Program} {l : Launch} {e : Env} {s : State} {m : MethodId} {args : Array Value} {below : List Frame} {meth : Method} {c : Code} {A : Nat → Prop} {g : xG} (C0 : vx g p s m args meth c cX3_countWhole (some .int) 6 yX3_countWhole wsX3_countWhole A) (a_cw : Nat) (cwn : Nat) (f_cw : Nat → Int32) (post : Int32 → Prop) (k6 : (Int32) → (Int32) → (Int32) → (Int32) → (Int32) → Prop) (hk6 : ∀ (x0 : Int32) (x2 : Int32) (x3 : Int32) (x4 : Int32) (x5 : Int32) {H : Heap} {locs : List Loc} {ls : Array Slot}, va_P g.1 vwCl [(a_cw, .inl (xcI g, cwn, .inl f_cw))] H → va_D A [(a_cw, .inl (xcI g, cwn, .inl f_cw))] → va_S A s.heap H locs → lv_has ls 6 [(0, .int x0), (1, .ref a_cw), (2, .int x2), (3, .int x3), (4, .int x4), (5, .int x5)] → k6 x0 x2 x3 x4 x5 → W p l e ({ frames := 0, cells := 0, slots := 0, locals := 0 } : Room) s m args below meth c H locs 0 0 (MQ below ((q_X3_countWhole g a_cw cwn f_cw post) A) args s 0 0 A) (F0 m 6 ls [])) (x0 : Int32) (x2 : Int32) (x3 : Int32) (x4 : Int32) (x5 : Int32) {H : Heap} {locs : List Loc} {ls : Array Slot} (hP : va_P g.1 vwCl [(a_cw, .inl (xcI g, cwn, .inl f_cw))] H) (hD : va_D A [(a_cw, .inl (xcI g, cwn, .inl f_cw))]) (hS : va_S A s.heap H locs) (hl : lv_has ls 6 [(0, .int x0), (1, .ref a_cw), (2, .int x2), (3, .int x3), (4, .int x4), (5, .int x5)]) (h : b_X3_countWhole_37 cwn f_cw post k6 x0 x2 x3 x4 x5) : W p l e ({ frames := 0, cells := 0, slots := 0, locals := 0 } : Room) s m args below meth c H locs 0 0 (MQ below ((q_X3_countWhole g a_cw cwn f_cw post) A) args s 0 0 A) (F0 m 37 ls []) := by
  obtain ⟨hx, hb, hr, hml, hown, hin, hts, hlocks, hA, hK, hZ⟩ := id C0
  have hown : s.vm.findClass RX3 = some m.cls := hown
  unfold b_X3_countWhole_37 at h
  refine lv_iinc (v := (x5 + 1)) (lv' := [(5, .int (x5 + 1)), (0, .int x0), (1, .ref a_cw), (2, .int x2), (3, .int x3), (4, .int x4)]) hx hb dX3_countWhole_37 hl (k := 5) rfl rfl (by decide) rfl (fun ls hl => ?_)
  refine lv_goto (tgt := 6) hx hb dX3_countWhole_40 (by decide) ?_
  exact hk6  x0 x2 x3 x4 (x5 + 1) hP hD hS (lv_sub hl [1, 2, 3, 4, 5, 0] rfl) h
set_option maxHeartbeats 1000000 in
set_option maxRecDepth 100000 in
theorem w_X3_countWhole_6 {p : Program} {l : Launch} {e : Env} {s : State} {m : MethodId} {args : Array Value} {below : List Frame} {meth : Method} {c : Code} {A : Nat → Prop} {g : xG} (C0 : vx g p s m args meth c cX3_countWhole (some .int) 6 yX3_countWhole wsX3_countWhole A) (a_cw : Nat) (cwn : Nat) (f_cw : Nat → Int32) (post : Int32 → Prop) : ∀ (n : Nat) (x0 : Int32) (x2 : Int32) (x3 : Int32) (x4 : Int32) (x5 : Int32) {H : Heap} {locs : List Loc} {ls : Array Slot}, va_P g.1 vwCl [(a_cw, .inl (xcI g, cwn, .inl f_cw))] H → va_D A [(a_cw, .inl (xcI g, cwn, .inl f_cw))] → va_S A s.heap H locs → lv_has ls 6 [(0, .int x0), (1, .ref a_cw), (2, .int x2), (3, .int x3), (4, .int x4), (5, .int x5)] → b_X3_countWhole_6 cwn f_cw post  n x0 x2 x3 x4 x5 → W p l e ({ frames := 0, cells := 0, slots := 0, locals := 0 } : Room) s m args below meth c H locs 0 0 (MQ below ((q_X3_countWhole g a_cw cwn f_cw post) A) args s 0 0 A) (F0 m 6 ls []) := by
  obtain ⟨hx, hb, hr, hml, hown, hin, hts, hlocks, hA, hK, hZ⟩ := id C0
  have hown : s.vm.findClass RX3 = some m.cls := hown
  intro n
  induction n with
  | zero =>
    intro  x0 x2 x3 x4 x5 H locs ls hP hD hS hl h
    exact False.elim h
  | succ n6 hk6 =>
    intro  x0 x2 x3 x4 x5 H locs ls hP hD hS hl h
    unfold b_X3_countWhole_6 at h
    refine lv_iload hx hb dX3_countWhole_6 (lv_at hl 5 rfl) ?_
    refine lv_iload_n hx hb dX3_countWhole_8 rfl (lv_at hl 2 rfl) ?_
    refine lv_iload_n hx hb dX3_countWhole_9 rfl (lv_at hl 3 rfl) ?_
    refine lv_iadd hx hb dX3_countWhole_10 ?_
    refine lv_icmp_ge (tgt := 43) hx hb dX3_countWhole_11 (by decide) (fun c1 => ?_) (fun c1 => ?_)
    · have h := h.1 c1
      refine lv_iload hx hb dX3_countWhole_43 (lv_at hl 4 rfl) ?_
      exact xreti () C0 hP hD hS h dX3_countWhole_45
    · have h := h.2 c1
      refine lv_iload hx hb dX3_countWhole_14 (lv_at hl 5 rfl) ?_
      refine lv_aload_n hx hb dX3_countWhole_16 rfl (lv_at hl 1 rfl) ?_
      refine va_alen (v := Int32.ofNat cwn) hx hb hK hP 0 0 rfl rfl rfl dX3_countWhole_17 ?_
      refine lv_icmp_ge (tgt := 43) hx hb dX3_countWhole_18 (by decide) (fun c2 => ?_) (fun c2 => ?_)
      · have h := h.1 c2
        refine lv_iload hx hb dX3_countWhole_43 (lv_at hl 4 rfl) ?_
        exact xreti () C0 hP hD hS h dX3_countWhole_45
      · have h := h.2 c2
        refine lv_iload_n hx hb dX3_countWhole_21 rfl (lv_at hl 0 rfl) ?_
        refine lv_aload_n hx hb dX3_countWhole_22 rfl (lv_at hl 1 rfl) ?_
        refine lv_iload hx hb dX3_countWhole_23 (lv_at hl 5 rfl) ?_
        obtain ⟨c3, h⟩ := h
        refine va_iald hx hb hK hP 0 0 rfl rfl c3 dX3_countWhole_25 ?_
        refine lv_iand hx hb dX3_countWhole_26 ?_
        refine lv_aload_n hx hb dX3_countWhole_27 rfl (lv_at hl 1 rfl) ?_
        refine lv_iload hx hb dX3_countWhole_28 (lv_at hl 5 rfl) ?_
        obtain ⟨c4, h⟩ := h
        refine va_iald hx hb hK hP 0 0 rfl rfl c4 dX3_countWhole_30 ?_
        refine lv_icmp_ne (tgt := 37) hx hb dX3_countWhole_31 (by decide) (fun c5 => ?_) (fun c5 => ?_)
        · have h := h.2 c5
          exact w_X3_countWhole_37 C0 a_cw cwn f_cw post (b_X3_countWhole_6 cwn f_cw post  n6) hk6  x0 x2 x3 x4 x5 hP hD hS (lv_sub hl [0, 1, 2, 3, 4, 5] rfl) h
        · have h := h.1 c5
          refine lv_iinc (v := (x4 + 1)) (lv' := [(4, .int (x4 + 1)), (0, .int x0), (1, .ref a_cw), (2, .int x2), (3, .int x3), (5, .int x5)]) hx hb dX3_countWhole_34 hl (k := 4) rfl rfl (by decide) rfl (fun ls hl => ?_)
          exact w_X3_countWhole_37 C0 a_cw cwn f_cw post (b_X3_countWhole_6 cwn f_cw post  n6) hk6  x0 x2 x3 (x4 + 1) x5 hP hD hS (lv_sub hl [1, 2, 3, 4, 0, 5] rfl) h
set_option maxHeartbeats 1000000 in
set_option maxRecDepth 100000 in
theorem c_X3_countWhole (l : Launch) (g : xG) (sz : Nat) (a_cw : Nat) (p_graph : Int32) (p_start : Int32) (p_length : Int32) (cwn : Nat) (f_cw : Nat → Int32) (post : Int32 → Prop) (h : wp_X3_countWhole p_graph p_start p_length cwn f_cw post) : xM l yX3_countWhole wsX3_countWhole ({ frames := 0, cells := 0, slots := 0, locals := 0 } : Room) g sz [(a_cw, .inl (xcI g, cwn, .inl f_cw))] [.int p_graph, .ref a_cw, .int p_start, .int p_length] (q_X3_countWhole g a_cw cwn f_cw post) 0 0 := by
  refine xmet (cc := cX3_countWhole) (maxL := 6) (ret := (some .int)) (by decide) rfl (Nat.le_of_ble_eq_true rfl) ?_
  intro p e s m args below meth c A ls H locs C0 hP hD hS hl
  obtain ⟨hx, hb, hr, hml, hown, hin, hts, hlocks, hA, hK, hZ⟩ := id C0
  have hown : s.vm.findClass RX3 = some m.cls := hown
  have hl : lv_has ls 6 [(0, .int p_graph), (1, .ref a_cw), (2, .int p_start), (3, .int p_length)] := hl
  unfold wp_X3_countWhole at h
  refine lv_iconst (v := 0) hx hb dX3_countWhole_0 (by decide) ?_
  refine lv_istore (lv' := [(4, .int (0 : Int32)), (0, .int p_graph), (1, .ref a_cw), (2, .int p_start), (3, .int p_length)]) hx hb dX3_countWhole_1 hl (by decide) rfl (fun ls hl => ?_)
  refine lv_iload_n hx hb dX3_countWhole_3 rfl (lv_at hl 3 rfl) ?_
  refine lv_istore (lv' := [(5, .int p_start), (4, .int (0 : Int32)), (0, .int p_graph), (1, .ref a_cw), (2, .int p_start), (3, .int p_length)]) hx hb dX3_countWhole_4 hl (by decide) rfl (fun ls hl => ?_)
  obtain ⟨n, h⟩ := h
  exact w_X3_countWhole_6 C0 a_cw cwn f_cw post   n  p_graph p_start p_length (0 : Int32) p_start hP hD hS (lv_sub hl [2, 3, 4, 5, 1, 0] rfl) h

def b_X3_isQuick_10 (post : Int32 → Prop) : Prop := post (1 : Int32) 
def wp_X3_isQuick (p_what : Int32) (post : Int32 → Prop) : Prop := ((p_what = 0 → b_X3_isQuick_10  post  ) ∧ (¬ p_what = 0 → ((p_what = (7 : Int32) → b_X3_isQuick_10  post  ) ∧ (¬ p_what = (7 : Int32) → post (0 : Int32) ))))
abbrev q_X3_isQuick (g : xG) (post : Int32 → Prop) : (Nat → Prop) → Array Value → State → Outcome → State → Prop := xQi g (fun (r : Int32) (u : Unit) => post r ) (fun (_ : Unit) => [])
set_option maxHeartbeats 1000000 in
set_option maxRecDepth 100000 in
theorem w_X3_isQuick_10 {p : Program} {l : Launch} {e : Env} {s : State} {m : MethodId} {args : Array Value} {below : List Frame} {meth : Method} {c : Code} {A : Nat → Prop} {g : xG} (C0 : vx g p s m args meth c cX3_isQuick (some .boolean) 1 yX3_isQuick wsX3_isQuick A) (post : Int32 → Prop) {H : Heap} {locs : List Loc} {ls : Array Slot} (hP : va_P g.1 vwCl [] H) (hD : va_D A []) (hS : va_S A s.heap H locs) (hl : lv_has ls 1 []) (h : b_X3_isQuick_10 post  ) : W p l e ({ frames := 0, cells := 0, slots := 0, locals := 0 } : Room) s m args below meth c H locs 0 0 (MQ below ((q_X3_isQuick g   post) A) args s 0 0 A) (F0 m 10 ls []) := by
  obtain ⟨hx, hb, hr, hml, hown, hin, hts, hlocks, hA, hK, hZ⟩ := id C0
  have hown : s.vm.findClass RX3 = some m.cls := hown
  unfold b_X3_isQuick_10 at h
  refine lv_iconst (v := 1) hx hb dX3_isQuick_10 (by decide) ?_
  refine lv_goto (tgt := 15) hx hb dX3_isQuick_11 (by decide) ?_
  exact xretz () C0 rfl hP hD hS h dX3_isQuick_15
set_option maxHeartbeats 1000000 in
set_option maxRecDepth 100000 in
theorem c_X3_isQuick (l : Launch) (g : xG) (sz : Nat) (p_what : Int32) (post : Int32 → Prop) (h : wp_X3_isQuick p_what post) : xM l yX3_isQuick wsX3_isQuick ({ frames := 0, cells := 0, slots := 0, locals := 0 } : Room) g sz [] [.int p_what] (q_X3_isQuick g   post) 0 0 := by
  refine xmet (cc := cX3_isQuick) (maxL := 1) (ret := (some .boolean)) (by decide) rfl (Nat.le_of_ble_eq_true rfl) ?_
  intro p e s m args below meth c A ls H locs C0 hP hD hS hl
  obtain ⟨hx, hb, hr, hml, hown, hin, hts, hlocks, hA, hK, hZ⟩ := id C0
  have hown : s.vm.findClass RX3 = some m.cls := hown
  have hl : lv_has ls 1 [(0, .int p_what)] := hl
  unfold wp_X3_isQuick at h
  refine lv_iload_n hx hb dX3_isQuick_0 rfl (lv_at hl 0 rfl) ?_
  refine lv_if_eq (tgt := 10) hx hb dX3_isQuick_1 (by decide) (fun c1 => ?_) (fun c1 => ?_)
  · have h := h.1 c1
    exact w_X3_isQuick_10 C0   post     hP hD hS (lv_sub hl [] rfl) h
  · have h := h.2 c1
    refine lv_iload_n hx hb dX3_isQuick_4 rfl (lv_at hl 0 rfl) ?_
    refine lv_bipush (v := 7) hx hb dX3_isQuick_5 (by decide) ?_
    refine lv_icmp_ne (tgt := 14) hx hb dX3_isQuick_7 (by decide) (fun c2 => ?_) (fun c2 => ?_)
    · have h := h.2 c2
      refine lv_iconst (v := 0) hx hb dX3_isQuick_14 (by decide) ?_
      exact xretz () C0 rfl hP hD hS h dX3_isQuick_15
    · have h := h.1 c2
      exact w_X3_isQuick_10 C0   post     hP hD hS (lv_sub hl [] rfl) h

def wp_X3_unpack (p_what : Int32) (p_packed : Int32) (post : Int32 → Prop) : Prop := ((p_what < 0 → post (0 : Int32) ) ∧ (¬ p_what < 0 → (((Int32.ofNat 7) ≤ p_what → post (0 : Int32) ) ∧ (¬ (Int32.ofNat 7) ≤ p_what → (vp_in p_what 7 ∧ (vp_in p_what 7 ∧ post ((p_packed >>> ((cSH p_what.toNatClampNeg) &&& 31)) &&& (cMA p_what.toNatClampNeg)) ))))))
abbrev q_X3_unpack (g : xG) (post : Int32 → Prop) : (Nat → Prop) → Array Value → State → Outcome → State → Prop := xQi g (fun (r : Int32) (u : Unit) => post r ) (fun (_ : Unit) => [])
set_option maxHeartbeats 1000000 in
set_option maxRecDepth 100000 in
theorem c_X3_unpack (l : Launch) (g : xG) (sz : Nat) (p_what : Int32) (p_packed : Int32) (post : Int32 → Prop) (h : wp_X3_unpack p_what p_packed post) : xM l yX3_unpack wsX3_unpack ({ frames := 0, cells := 0, slots := 0, locals := 0 } : Room) g sz [] [.int p_what, .int p_packed] (q_X3_unpack g   post) 0 0 := by
  refine xmet (cc := cX3_unpack) (maxL := 2) (ret := (some .int)) (by decide) rfl (Nat.le_of_ble_eq_true rfl) ?_
  intro p e s m args below meth c A ls H locs C0 hP hD hS hl
  obtain ⟨hx, hb, hr, hml, hown, hin, hts, hlocks, hA, hK, hZ⟩ := id C0
  have hown : s.vm.findClass RX3 = some m.cls := hown
  have hl : lv_has ls 2 [(0, .int p_what), (1, .int p_packed)] := hl
  unfold wp_X3_unpack at h
  refine lv_iload_n hx hb dX3_unpack_0 rfl (lv_at hl 0 rfl) ?_
  refine lv_if_lt (tgt := 28) hx hb dX3_unpack_1 (by decide) (fun c1 => ?_) (fun c1 => ?_)
  · have h := h.1 c1
    refine lv_iconst (v := 0) hx hb dX3_unpack_28 (by decide) ?_
    exact xreti () C0 hP hD hS h dX3_unpack_29
  · have h := h.2 c1
    refine lv_iload_n hx hb dX3_unpack_4 rfl (lv_at hl 0 rfl) ?_
    refine va_gets hx hb hZ.1.1 hS hown (hts (.fieldLink RX3 76 "RandomModels$Things" "SHIFTS" "[I") (by decide +kernel)) (fun _ h9 => h9) dX3_unpack_5 ?_
    refine va_tlen (v := Int32.ofNat 7) hx hb hZ.1.2 hS rfl dX3_unpack_8 ?_
    refine lv_icmp_ge (tgt := 28) hx hb dX3_unpack_9 (by decide) (fun c2 => ?_) (fun c2 => ?_)
    · have h := h.1 c2
      refine lv_iconst (v := 0) hx hb dX3_unpack_28 (by decide) ?_
      exact xreti () C0 hP hD hS h dX3_unpack_29
    · have h := h.2 c2
      refine lv_iload_n hx hb dX3_unpack_12 rfl (lv_at hl 1 rfl) ?_
      refine va_gets hx hb hZ.1.1 hS hown (hts (.fieldLink RX3 76 "RandomModels$Things" "SHIFTS" "[I") (by decide +kernel)) (fun _ h9 => h9) dX3_unpack_13 ?_
      refine lv_iload_n hx hb dX3_unpack_16 rfl (lv_at hl 0 rfl) ?_
      obtain ⟨c3, h⟩ := h
      refine va_ti (v := .int (cSH p_what.toNatClampNeg)) hx hb hZ.1.2 hS c3 rfl dX3_unpack_17 ?_
      refine lv_ishr hx hb dX3_unpack_18 ?_
      refine va_gets hx hb hZ.2.1 hS hown (hts (.fieldLink RX3 79 "RandomModels$Things" "MASKS" "[I") (by decide +kernel)) (fun _ h9 => h9) dX3_unpack_19 ?_
      refine lv_iload_n hx hb dX3_unpack_22 rfl (lv_at hl 0 rfl) ?_
      obtain ⟨c4, h⟩ := h
      refine va_ti (v := .int (cMA p_what.toNatClampNeg)) hx hb hZ.2.2.1 hS c4 rfl dX3_unpack_23 ?_
      refine lv_iand hx hb dX3_unpack_24 ?_
      refine lv_goto (tgt := 29) hx hb dX3_unpack_25 (by decide) ?_
      exact xreti () C0 hP hD hS h dX3_unpack_29

def wp_X3_setSameLabel (p_set : Int32) (sl : Int32) (post : (Int32) → Prop) : Prop := post p_set
abbrev q_X3_setSameLabel (g : xG) (a_th : Nat) (a_tw : Nat) (a_tr : Nat) (a_ke : Nat) (a_pr : Nat) (a_lo : Nat) (a_hi : Nat) (a_st : Nat) (f_tw : Nat → Int32) (f_tr : Nat → Int32) (kn : Nat) (f_ke : Nat → Int32) (f_lo : Nat → Int32) (f_hi : Nat → Int32) (f_st : Nat → Int32) (post : (Int32) → Prop) : (Nat → Prop) → Array Value → State → Outcome → State → Prop := xQv g (fun (sl : (Int32)) => post sl) (fun (sl : (Int32)) => [(a_th, .inr (3, [.ref a_pr, .ref a_tw, .ref a_tr, .ref a_ke, .int sl])), (a_tw, .inl (xcI g, 60, .inl f_tw)), (a_tr, .inl (xcI g, 180, .inl f_tr)), (a_ke, .inl (xcI g, kn, .inl f_ke)), (a_pr, .inr (1, [.ref a_lo, .ref a_hi, .ref a_st])), (a_lo, .inl (xcI g, 15, .inl f_lo)), (a_hi, .inl (xcI g, 15, .inl f_hi)), (a_st, .inl (xcI g, 6, .inl f_st))])
theorem in_X3_setSameLabel_X3 : ∀ w ∈ u_ws RX3 TX3 5, w ∈ wsX3_setSameLabel := by decide +kernel
set_option maxHeartbeats 1000000 in
set_option maxRecDepth 100000 in
theorem c_X3_setSameLabel (l : Launch) (g : xG) (sz : Nat) (a_th : Nat) (a_tw : Nat) (a_tr : Nat) (a_ke : Nat) (a_pr : Nat) (a_lo : Nat) (a_hi : Nat) (a_st : Nat) (p_set : Int32) (f_tw : Nat → Int32) (f_tr : Nat → Int32) (kn : Nat) (f_ke : Nat → Int32) (f_lo : Nat → Int32) (f_hi : Nat → Int32) (f_st : Nat → Int32) (sl : Int32) (post : (Int32) → Prop) (h : wp_X3_setSameLabel p_set sl post) : xM l yX3_setSameLabel wsX3_setSameLabel ({ frames := 0, cells := 0, slots := 0, locals := 0 } : Room) g sz [(a_th, .inr (3, [.ref a_pr, .ref a_tw, .ref a_tr, .ref a_ke, .int sl])), (a_tw, .inl (xcI g, 60, .inl f_tw)), (a_tr, .inl (xcI g, 180, .inl f_tr)), (a_ke, .inl (xcI g, kn, .inl f_ke)), (a_pr, .inr (1, [.ref a_lo, .ref a_hi, .ref a_st])), (a_lo, .inl (xcI g, 15, .inl f_lo)), (a_hi, .inl (xcI g, 15, .inl f_hi)), (a_st, .inl (xcI g, 6, .inl f_st))] [.ref a_th, .int p_set] (q_X3_setSameLabel g a_th a_tw a_tr a_ke a_pr a_lo a_hi a_st f_tw f_tr kn f_ke f_lo f_hi f_st post) 0 0 := by
  refine xmet (cc := cX3_setSameLabel) (maxL := 2) (ret := none) (by decide) rfl (Nat.le_of_ble_eq_true rfl) ?_
  intro p e s m args below meth c A ls H locs C0 hP hD hS hl
  obtain ⟨hx, hb, hr, hml, hown, hin, hts, hlocks, hA, hK, hZ⟩ := id C0
  have hown : s.vm.findClass RX3 = some m.cls := hown
  have hl : lv_has ls 2 [(0, .ref a_th), (1, .int p_set)] := hl
  unfold wp_X3_setSameLabel at h
  refine lv_aload_n hx hb dX3_setSameLabel_0 rfl (lv_at hl 0 rfl) ?_
  refine lv_iload_n hx hb dX3_setSameLabel_1 rfl (lv_at hl 1 rfl) ?_
  refine va_put (D := g.1) (ci := 3) (v := .int p_set) (ty := .int) (C := RX3) (T := TX3) (N := 5) hx hb hts in_X3_setSameLabel_X3 tyX3 tyX3_ok nmX3 hown hK hP hD hS 0 rfl rfl 4 (by decide) (hts (.fieldLink RX3 25 "RandomModels$Things" "sameLabel" "I") (by decide +kernel)) (fun _ h9 => h9) rfl (by decide +kernel) rfl rfl (Nat.le_of_ble_eq_true rfl) dX3_setSameLabel_2 (fun H locs hP hD hS => ?_)
  have hP : va_P g.1 vwCl [(a_th, .inr (3, [.ref a_pr, .ref a_tw, .ref a_tr, .ref a_ke, .int p_set])), (a_tw, .inl (xcI g, 60, .inl f_tw)), (a_tr, .inl (xcI g, 180, .inl f_tr)), (a_ke, .inl (xcI g, kn, .inl f_ke)), (a_pr, .inr (1, [.ref a_lo, .ref a_hi, .ref a_st])), (a_lo, .inl (xcI g, 15, .inl f_lo)), (a_hi, .inl (xcI g, 15, .inl f_hi)), (a_st, .inl (xcI g, 6, .inl f_st))] H := hP
  have hD : va_D A [(a_th, .inr (3, [.ref a_pr, .ref a_tw, .ref a_tr, .ref a_ke, .int p_set])), (a_tw, .inl (xcI g, 60, .inl f_tw)), (a_tr, .inl (xcI g, 180, .inl f_tr)), (a_ke, .inl (xcI g, kn, .inl f_ke)), (a_pr, .inr (1, [.ref a_lo, .ref a_hi, .ref a_st])), (a_lo, .inl (xcI g, 15, .inl f_lo)), (a_hi, .inl (xcI g, 15, .inl f_hi)), (a_st, .inl (xcI g, 6, .inl f_st))] := hD
  exact xretv p_set C0 hP hD hS h dX3_setSameLabel_5

def wp_X3_read (p_what : Int32) (p_packed : Int32) (p_graph : Int32) (p_nodes : Int32) (sl : Int32) (post : Int32 → Prop) : Prop := ((p_what = 0 → wp_J6_bitCount_0f7a4 p_graph (fun r2 => post r2 )) ∧ (¬ p_what = 0 → ((p_what = 1 → wp_X3_unpack p_what p_packed (fun r4 => post r4 )) ∧ (¬ p_what = 1 → ((p_what = 2 → wp_X3_unpack p_what p_packed (fun r6 => post r6 )) ∧ (¬ p_what = 2 → ((p_what = 3 → wp_X3_unpack p_what p_packed (fun r8 => post (p_nodes - r8) )) ∧ (¬ p_what = 3 → ((p_what = 4 → wp_X3_unpack p_what p_packed (fun r10 => post r10 )) ∧ (¬ p_what = 4 → ((p_what = 5 → wp_X3_unpack p_what p_packed (fun r12 => post r12 )) ∧ (¬ p_what = 5 → ((p_what = 6 → wp_X3_unpack p_what p_packed (fun r14 => post (p_nodes - r14) )) ∧ (¬ p_what = 6 → ((p_what = 7 → wp_J6_bitCount_0f7a4 (p_graph &&& sl) (fun r16 => post r16 )) ∧ (¬ p_what = 7 → wp_X3_unpack p_what p_packed (fun r17 => post r17 )))))))))))))))))
abbrev q_X3_read (g : xG) (a_th : Nat) (a_tw : Nat) (a_tr : Nat) (a_ke : Nat) (a_pr : Nat) (a_lo : Nat) (a_hi : Nat) (a_st : Nat) (sl : Int32) (f_tw : Nat → Int32) (f_tr : Nat → Int32) (kn : Nat) (f_ke : Nat → Int32) (f_lo : Nat → Int32) (f_hi : Nat → Int32) (f_st : Nat → Int32) (post : Int32 → Prop) : (Nat → Prop) → Array Value → State → Outcome → State → Prop := xQi g (fun (r : Int32) (u : Unit) => post r ) (fun (_ : Unit) => [(a_th, .inr (3, [.ref a_pr, .ref a_tw, .ref a_tr, .ref a_ke, .int sl])), (a_tw, .inl (xcI g, 60, .inl f_tw)), (a_tr, .inl (xcI g, 180, .inl f_tr)), (a_ke, .inl (xcI g, kn, .inl f_ke)), (a_pr, .inr (1, [.ref a_lo, .ref a_hi, .ref a_st])), (a_lo, .inl (xcI g, 15, .inl f_lo)), (a_hi, .inl (xcI g, 15, .inl f_hi)), (a_st, .inl (xcI g, 6, .inl f_st))])
theorem in_X3_read_X3 : ∀ w ∈ u_ws RX3 TX3 5, w ∈ wsX3_read := by decide +kernel
set_option maxHeartbeats 1000000 in
set_option maxRecDepth 100000 in
theorem c_X3_read (l : Launch) (g : xG) (sz : Nat) (a_th : Nat) (a_tw : Nat) (a_tr : Nat) (a_ke : Nat) (a_pr : Nat) (a_lo : Nat) (a_hi : Nat) (a_st : Nat) (p_what : Int32) (p_packed : Int32) (p_graph : Int32) (p_nodes : Int32) (sl : Int32) (f_tw : Nat → Int32) (f_tr : Nat → Int32) (kn : Nat) (f_ke : Nat → Int32) (f_lo : Nat → Int32) (f_hi : Nat → Int32) (f_st : Nat → Int32) (post : Int32 → Prop) (h : wp_X3_read p_what p_packed p_graph p_nodes sl post) : xM l yX3_read wsX3_read ({ frames := 1, cells := 0, slots := 0, locals := 21 } : Room) g sz [(a_th, .inr (3, [.ref a_pr, .ref a_tw, .ref a_tr, .ref a_ke, .int sl])), (a_tw, .inl (xcI g, 60, .inl f_tw)), (a_tr, .inl (xcI g, 180, .inl f_tr)), (a_ke, .inl (xcI g, kn, .inl f_ke)), (a_pr, .inr (1, [.ref a_lo, .ref a_hi, .ref a_st])), (a_lo, .inl (xcI g, 15, .inl f_lo)), (a_hi, .inl (xcI g, 15, .inl f_hi)), (a_st, .inl (xcI g, 6, .inl f_st))] [.ref a_th, .int p_what, .int p_packed, .int p_graph, .int p_nodes] (q_X3_read g a_th a_tw a_tr a_ke a_pr a_lo a_hi a_st sl f_tw f_tr kn f_ke f_lo f_hi f_st post) 0 0 := by
  refine xmet (cc := cX3_read) (maxL := 5) (ret := (some .int)) (by decide) rfl (Nat.le_of_ble_eq_true rfl) ?_
  intro p e s m args below meth c A ls H locs C0 hP hD hS hl
  obtain ⟨hx, hb, hr, hml, hown, hin, hts, hlocks, hA, hK, hZ⟩ := id C0
  have hown : s.vm.findClass RX3 = some m.cls := hown
  have hl : lv_has ls 5 [(0, .ref a_th), (1, .int p_what), (2, .int p_packed), (3, .int p_graph), (4, .int p_nodes)] := hl
  unfold wp_X3_read at h
  refine lv_iload_n hx hb dX3_read_0 rfl (lv_at hl 1 rfl) ?_
  by_cases c1 : p_what = 0
  · have h := h.1 c1
    refine lv_tableIn (tgt := 48) hx hb dX3_read_1 (by rw [c1]; decide) (by rw [c1]; decide) (by rw [c1]; rfl) (by decide) ?_
    refine lv_iload_n hx hb dX3_read_48 rfl (lv_at hl 3 rfl) ?_
    refine xi (wr := [(a_th, .inr (3, [.ref a_pr, .ref a_tw, .ref a_tr, .ref a_ke, .int sl])), (a_tw, .inl (xcI g, 60, .inl f_tw)), (a_tr, .inl (xcI g, 180, .inl f_tr)), (a_ke, .inl (xcI g, kn, .inl f_ke)), (a_pr, .inr (1, [.ref a_lo, .ref a_hi, .ref a_st])), (a_lo, .inl (xcI g, 15, .inl f_lo)), (a_hi, .inl (xcI g, 15, .inl f_hi)), (a_st, .inl (xcI g, 6, .inl f_st))]) (xrS (As := [.int p_graph]) (rest := []) C0 hl.1 (c_J6_bitCount_0f7a4 l g _  p_graph _ h) (va_cwS 1 hts gX3_read_J6_bitCount_0f7a4 rfl rfl rfl (by decide +kernel) ⟨Nat.le_of_ble_eq_true rfl, Nat.le_of_ble_eq_true rfl⟩) rfl rfl (Nat.le_of_ble_eq_true rfl) dX3_read_49 ⟨Nat.le_of_ble_eq_true rfl, Nat.le_of_ble_eq_true rfl⟩) C0 hP hD hS [] [0, 1, 2, 3, 4, 5, 6, 7] (by decide) rfl rfl rfl (by decide) (by decide) (fun r2 u H locs h hP hD hS => ?_)
    have hP : va_P g.1 vwCl [(a_th, .inr (3, [.ref a_pr, .ref a_tw, .ref a_tr, .ref a_ke, .int sl])), (a_tw, .inl (xcI g, 60, .inl f_tw)), (a_tr, .inl (xcI g, 180, .inl f_tr)), (a_ke, .inl (xcI g, kn, .inl f_ke)), (a_pr, .inr (1, [.ref a_lo, .ref a_hi, .ref a_st])), (a_lo, .inl (xcI g, 15, .inl f_lo)), (a_hi, .inl (xcI g, 15, .inl f_hi)), (a_st, .inl (xcI g, 6, .inl f_st))] H := hP
    have hD : va_D A [(a_th, .inr (3, [.ref a_pr, .ref a_tw, .ref a_tr, .ref a_ke, .int sl])), (a_tw, .inl (xcI g, 60, .inl f_tw)), (a_tr, .inl (xcI g, 180, .inl f_tr)), (a_ke, .inl (xcI g, kn, .inl f_ke)), (a_pr, .inr (1, [.ref a_lo, .ref a_hi, .ref a_st])), (a_lo, .inl (xcI g, 15, .inl f_lo)), (a_hi, .inl (xcI g, 15, .inl f_hi)), (a_st, .inl (xcI g, 6, .inl f_st))] := hD
    exact xreti () C0 hP hD hS h dX3_read_52
  have h := h.2 c1
  by_cases c3 : p_what = 1
  · have h := h.1 c3
    refine lv_tableIn (tgt := 72) hx hb dX3_read_1 (by rw [c3]; decide) (by rw [c3]; decide) (by rw [c3]; rfl) (by decide) ?_
    refine lv_iload_n hx hb dX3_read_72 rfl (lv_at hl 1 rfl) ?_
    refine lv_iload_n hx hb dX3_read_73 rfl (lv_at hl 2 rfl) ?_
    refine xi (wr := [(a_th, .inr (3, [.ref a_pr, .ref a_tw, .ref a_tr, .ref a_ke, .int sl])), (a_tw, .inl (xcI g, 60, .inl f_tw)), (a_tr, .inl (xcI g, 180, .inl f_tr)), (a_ke, .inl (xcI g, kn, .inl f_ke)), (a_pr, .inr (1, [.ref a_lo, .ref a_hi, .ref a_st])), (a_lo, .inl (xcI g, 15, .inl f_lo)), (a_hi, .inl (xcI g, 15, .inl f_hi)), (a_st, .inl (xcI g, 6, .inl f_st))]) (xrS (As := [.int p_what, .int p_packed]) (rest := []) C0 hl.1 (c_X3_unpack l g _  p_what p_packed _ h) (va_cwS 2 hts gX3_read_X3_unpack rfl rfl rfl (by decide +kernel) ⟨Nat.le_of_ble_eq_true rfl, Nat.le_of_ble_eq_true rfl⟩) rfl rfl (Nat.le_of_ble_eq_true rfl) dX3_read_74 ⟨Nat.le_of_ble_eq_true rfl, Nat.le_of_ble_eq_true rfl⟩) C0 hP hD hS [] [0, 1, 2, 3, 4, 5, 6, 7] (by decide) rfl rfl rfl (by decide) (by decide) (fun r4 u H locs h hP hD hS => ?_)
    have hP : va_P g.1 vwCl [(a_th, .inr (3, [.ref a_pr, .ref a_tw, .ref a_tr, .ref a_ke, .int sl])), (a_tw, .inl (xcI g, 60, .inl f_tw)), (a_tr, .inl (xcI g, 180, .inl f_tr)), (a_ke, .inl (xcI g, kn, .inl f_ke)), (a_pr, .inr (1, [.ref a_lo, .ref a_hi, .ref a_st])), (a_lo, .inl (xcI g, 15, .inl f_lo)), (a_hi, .inl (xcI g, 15, .inl f_hi)), (a_st, .inl (xcI g, 6, .inl f_st))] H := hP
    have hD : va_D A [(a_th, .inr (3, [.ref a_pr, .ref a_tw, .ref a_tr, .ref a_ke, .int sl])), (a_tw, .inl (xcI g, 60, .inl f_tw)), (a_tr, .inl (xcI g, 180, .inl f_tr)), (a_ke, .inl (xcI g, kn, .inl f_ke)), (a_pr, .inr (1, [.ref a_lo, .ref a_hi, .ref a_st])), (a_lo, .inl (xcI g, 15, .inl f_lo)), (a_hi, .inl (xcI g, 15, .inl f_hi)), (a_st, .inl (xcI g, 6, .inl f_st))] := hD
    exact xreti () C0 hP hD hS h dX3_read_77
  have h := h.2 c3
  by_cases c5 : p_what = 2
  · have h := h.1 c5
    refine lv_tableIn (tgt := 72) hx hb dX3_read_1 (by rw [c5]; decide) (by rw [c5]; decide) (by rw [c5]; rfl) (by decide) ?_
    refine lv_iload_n hx hb dX3_read_72 rfl (lv_at hl 1 rfl) ?_
    refine lv_iload_n hx hb dX3_read_73 rfl (lv_at hl 2 rfl) ?_
    refine xi (wr := [(a_th, .inr (3, [.ref a_pr, .ref a_tw, .ref a_tr, .ref a_ke, .int sl])), (a_tw, .inl (xcI g, 60, .inl f_tw)), (a_tr, .inl (xcI g, 180, .inl f_tr)), (a_ke, .inl (xcI g, kn, .inl f_ke)), (a_pr, .inr (1, [.ref a_lo, .ref a_hi, .ref a_st])), (a_lo, .inl (xcI g, 15, .inl f_lo)), (a_hi, .inl (xcI g, 15, .inl f_hi)), (a_st, .inl (xcI g, 6, .inl f_st))]) (xrS (As := [.int p_what, .int p_packed]) (rest := []) C0 hl.1 (c_X3_unpack l g _  p_what p_packed _ h) (va_cwS 2 hts gX3_read_X3_unpack rfl rfl rfl (by decide +kernel) ⟨Nat.le_of_ble_eq_true rfl, Nat.le_of_ble_eq_true rfl⟩) rfl rfl (Nat.le_of_ble_eq_true rfl) dX3_read_74 ⟨Nat.le_of_ble_eq_true rfl, Nat.le_of_ble_eq_true rfl⟩) C0 hP hD hS [] [0, 1, 2, 3, 4, 5, 6, 7] (by decide) rfl rfl rfl (by decide) (by decide) (fun r6 u H locs h hP hD hS => ?_)
    have hP : va_P g.1 vwCl [(a_th, .inr (3, [.ref a_pr, .ref a_tw, .ref a_tr, .ref a_ke, .int sl])), (a_tw, .inl (xcI g, 60, .inl f_tw)), (a_tr, .inl (xcI g, 180, .inl f_tr)), (a_ke, .inl (xcI g, kn, .inl f_ke)), (a_pr, .inr (1, [.ref a_lo, .ref a_hi, .ref a_st])), (a_lo, .inl (xcI g, 15, .inl f_lo)), (a_hi, .inl (xcI g, 15, .inl f_hi)), (a_st, .inl (xcI g, 6, .inl f_st))] H := hP
    have hD : va_D A [(a_th, .inr (3, [.ref a_pr, .ref a_tw, .ref a_tr, .ref a_ke, .int sl])), (a_tw, .inl (xcI g, 60, .inl f_tw)), (a_tr, .inl (xcI g, 180, .inl f_tr)), (a_ke, .inl (xcI g, kn, .inl f_ke)), (a_pr, .inr (1, [.ref a_lo, .ref a_hi, .ref a_st])), (a_lo, .inl (xcI g, 15, .inl f_lo)), (a_hi, .inl (xcI g, 15, .inl f_hi)), (a_st, .inl (xcI g, 6, .inl f_st))] := hD
    exact xreti () C0 hP hD hS h dX3_read_77
  have h := h.2 c5
  by_cases c7 : p_what = 3
  · have h := h.1 c7
    refine lv_tableIn (tgt := 63) hx hb dX3_read_1 (by rw [c7]; decide) (by rw [c7]; decide) (by rw [c7]; rfl) (by decide) ?_
    refine lv_iload hx hb dX3_read_63 (lv_at hl 4 rfl) ?_
    refine lv_iload_n hx hb dX3_read_65 rfl (lv_at hl 1 rfl) ?_
    refine lv_iload_n hx hb dX3_read_66 rfl (lv_at hl 2 rfl) ?_
    refine xi (wr := [(a_th, .inr (3, [.ref a_pr, .ref a_tw, .ref a_tr, .ref a_ke, .int sl])), (a_tw, .inl (xcI g, 60, .inl f_tw)), (a_tr, .inl (xcI g, 180, .inl f_tr)), (a_ke, .inl (xcI g, kn, .inl f_ke)), (a_pr, .inr (1, [.ref a_lo, .ref a_hi, .ref a_st])), (a_lo, .inl (xcI g, 15, .inl f_lo)), (a_hi, .inl (xcI g, 15, .inl f_hi)), (a_st, .inl (xcI g, 6, .inl f_st))]) (xrS (As := [.int p_what, .int p_packed]) (rest := [.int p_nodes]) C0 hl.1 (c_X3_unpack l g _  p_what p_packed _ h) (va_cwS 2 hts gX3_read_X3_unpack rfl rfl rfl (by decide +kernel) ⟨Nat.le_of_ble_eq_true rfl, Nat.le_of_ble_eq_true rfl⟩) rfl rfl (Nat.le_of_ble_eq_true rfl) dX3_read_67 ⟨Nat.le_of_ble_eq_true rfl, Nat.le_of_ble_eq_true rfl⟩) C0 hP hD hS [] [0, 1, 2, 3, 4, 5, 6, 7] (by decide) rfl rfl rfl (by decide) (by decide) (fun r8 u H locs h hP hD hS => ?_)
    have hP : va_P g.1 vwCl [(a_th, .inr (3, [.ref a_pr, .ref a_tw, .ref a_tr, .ref a_ke, .int sl])), (a_tw, .inl (xcI g, 60, .inl f_tw)), (a_tr, .inl (xcI g, 180, .inl f_tr)), (a_ke, .inl (xcI g, kn, .inl f_ke)), (a_pr, .inr (1, [.ref a_lo, .ref a_hi, .ref a_st])), (a_lo, .inl (xcI g, 15, .inl f_lo)), (a_hi, .inl (xcI g, 15, .inl f_hi)), (a_st, .inl (xcI g, 6, .inl f_st))] H := hP
    have hD : va_D A [(a_th, .inr (3, [.ref a_pr, .ref a_tw, .ref a_tr, .ref a_ke, .int sl])), (a_tw, .inl (xcI g, 60, .inl f_tw)), (a_tr, .inl (xcI g, 180, .inl f_tr)), (a_ke, .inl (xcI g, kn, .inl f_ke)), (a_pr, .inr (1, [.ref a_lo, .ref a_hi, .ref a_st])), (a_lo, .inl (xcI g, 15, .inl f_lo)), (a_hi, .inl (xcI g, 15, .inl f_hi)), (a_st, .inl (xcI g, 6, .inl f_st))] := hD
    refine lv_isub hx hb dX3_read_70 ?_
    exact xreti () C0 hP hD hS h dX3_read_71
  have h := h.2 c7
  by_cases c9 : p_what = 4
  · have h := h.1 c9
    refine lv_tableIn (tgt := 72) hx hb dX3_read_1 (by rw [c9]; decide) (by rw [c9]; decide) (by rw [c9]; rfl) (by decide) ?_
    refine lv_iload_n hx hb dX3_read_72 rfl (lv_at hl 1 rfl) ?_
    refine lv_iload_n hx hb dX3_read_73 rfl (lv_at hl 2 rfl) ?_
    refine xi (wr := [(a_th, .inr (3, [.ref a_pr, .ref a_tw, .ref a_tr, .ref a_ke, .int sl])), (a_tw, .inl (xcI g, 60, .inl f_tw)), (a_tr, .inl (xcI g, 180, .inl f_tr)), (a_ke, .inl (xcI g, kn, .inl f_ke)), (a_pr, .inr (1, [.ref a_lo, .ref a_hi, .ref a_st])), (a_lo, .inl (xcI g, 15, .inl f_lo)), (a_hi, .inl (xcI g, 15, .inl f_hi)), (a_st, .inl (xcI g, 6, .inl f_st))]) (xrS (As := [.int p_what, .int p_packed]) (rest := []) C0 hl.1 (c_X3_unpack l g _  p_what p_packed _ h) (va_cwS 2 hts gX3_read_X3_unpack rfl rfl rfl (by decide +kernel) ⟨Nat.le_of_ble_eq_true rfl, Nat.le_of_ble_eq_true rfl⟩) rfl rfl (Nat.le_of_ble_eq_true rfl) dX3_read_74 ⟨Nat.le_of_ble_eq_true rfl, Nat.le_of_ble_eq_true rfl⟩) C0 hP hD hS [] [0, 1, 2, 3, 4, 5, 6, 7] (by decide) rfl rfl rfl (by decide) (by decide) (fun r10 u H locs h hP hD hS => ?_)
    have hP : va_P g.1 vwCl [(a_th, .inr (3, [.ref a_pr, .ref a_tw, .ref a_tr, .ref a_ke, .int sl])), (a_tw, .inl (xcI g, 60, .inl f_tw)), (a_tr, .inl (xcI g, 180, .inl f_tr)), (a_ke, .inl (xcI g, kn, .inl f_ke)), (a_pr, .inr (1, [.ref a_lo, .ref a_hi, .ref a_st])), (a_lo, .inl (xcI g, 15, .inl f_lo)), (a_hi, .inl (xcI g, 15, .inl f_hi)), (a_st, .inl (xcI g, 6, .inl f_st))] H := hP
    have hD : va_D A [(a_th, .inr (3, [.ref a_pr, .ref a_tw, .ref a_tr, .ref a_ke, .int sl])), (a_tw, .inl (xcI g, 60, .inl f_tw)), (a_tr, .inl (xcI g, 180, .inl f_tr)), (a_ke, .inl (xcI g, kn, .inl f_ke)), (a_pr, .inr (1, [.ref a_lo, .ref a_hi, .ref a_st])), (a_lo, .inl (xcI g, 15, .inl f_lo)), (a_hi, .inl (xcI g, 15, .inl f_hi)), (a_st, .inl (xcI g, 6, .inl f_st))] := hD
    exact xreti () C0 hP hD hS h dX3_read_77
  have h := h.2 c9
  by_cases c11 : p_what = 5
  · have h := h.1 c11
    refine lv_tableIn (tgt := 72) hx hb dX3_read_1 (by rw [c11]; decide) (by rw [c11]; decide) (by rw [c11]; rfl) (by decide) ?_
    refine lv_iload_n hx hb dX3_read_72 rfl (lv_at hl 1 rfl) ?_
    refine lv_iload_n hx hb dX3_read_73 rfl (lv_at hl 2 rfl) ?_
    refine xi (wr := [(a_th, .inr (3, [.ref a_pr, .ref a_tw, .ref a_tr, .ref a_ke, .int sl])), (a_tw, .inl (xcI g, 60, .inl f_tw)), (a_tr, .inl (xcI g, 180, .inl f_tr)), (a_ke, .inl (xcI g, kn, .inl f_ke)), (a_pr, .inr (1, [.ref a_lo, .ref a_hi, .ref a_st])), (a_lo, .inl (xcI g, 15, .inl f_lo)), (a_hi, .inl (xcI g, 15, .inl f_hi)), (a_st, .inl (xcI g, 6, .inl f_st))]) (xrS (As := [.int p_what, .int p_packed]) (rest := []) C0 hl.1 (c_X3_unpack l g _  p_what p_packed _ h) (va_cwS 2 hts gX3_read_X3_unpack rfl rfl rfl (by decide +kernel) ⟨Nat.le_of_ble_eq_true rfl, Nat.le_of_ble_eq_true rfl⟩) rfl rfl (Nat.le_of_ble_eq_true rfl) dX3_read_74 ⟨Nat.le_of_ble_eq_true rfl, Nat.le_of_ble_eq_true rfl⟩) C0 hP hD hS [] [0, 1, 2, 3, 4, 5, 6, 7] (by decide) rfl rfl rfl (by decide) (by decide) (fun r12 u H locs h hP hD hS => ?_)
    have hP : va_P g.1 vwCl [(a_th, .inr (3, [.ref a_pr, .ref a_tw, .ref a_tr, .ref a_ke, .int sl])), (a_tw, .inl (xcI g, 60, .inl f_tw)), (a_tr, .inl (xcI g, 180, .inl f_tr)), (a_ke, .inl (xcI g, kn, .inl f_ke)), (a_pr, .inr (1, [.ref a_lo, .ref a_hi, .ref a_st])), (a_lo, .inl (xcI g, 15, .inl f_lo)), (a_hi, .inl (xcI g, 15, .inl f_hi)), (a_st, .inl (xcI g, 6, .inl f_st))] H := hP
    have hD : va_D A [(a_th, .inr (3, [.ref a_pr, .ref a_tw, .ref a_tr, .ref a_ke, .int sl])), (a_tw, .inl (xcI g, 60, .inl f_tw)), (a_tr, .inl (xcI g, 180, .inl f_tr)), (a_ke, .inl (xcI g, kn, .inl f_ke)), (a_pr, .inr (1, [.ref a_lo, .ref a_hi, .ref a_st])), (a_lo, .inl (xcI g, 15, .inl f_lo)), (a_hi, .inl (xcI g, 15, .inl f_hi)), (a_st, .inl (xcI g, 6, .inl f_st))] := hD
    exact xreti () C0 hP hD hS h dX3_read_77
  have h := h.2 c11
  by_cases c13 : p_what = 6
  · have h := h.1 c13
    refine lv_tableIn (tgt := 63) hx hb dX3_read_1 (by rw [c13]; decide) (by rw [c13]; decide) (by rw [c13]; rfl) (by decide) ?_
    refine lv_iload hx hb dX3_read_63 (lv_at hl 4 rfl) ?_
    refine lv_iload_n hx hb dX3_read_65 rfl (lv_at hl 1 rfl) ?_
    refine lv_iload_n hx hb dX3_read_66 rfl (lv_at hl 2 rfl) ?_
    refine xi (wr := [(a_th, .inr (3, [.ref a_pr, .ref a_tw, .ref a_tr, .ref a_ke, .int sl])), (a_tw, .inl (xcI g, 60, .inl f_tw)), (a_tr, .inl (xcI g, 180, .inl f_tr)), (a_ke, .inl (xcI g, kn, .inl f_ke)), (a_pr, .inr (1, [.ref a_lo, .ref a_hi, .ref a_st])), (a_lo, .inl (xcI g, 15, .inl f_lo)), (a_hi, .inl (xcI g, 15, .inl f_hi)), (a_st, .inl (xcI g, 6, .inl f_st))]) (xrS (As := [.int p_what, .int p_packed]) (rest := [.int p_nodes]) C0 hl.1 (c_X3_unpack l g _  p_what p_packed _ h) (va_cwS 2 hts gX3_read_X3_unpack rfl rfl rfl (by decide +kernel) ⟨Nat.le_of_ble_eq_true rfl, Nat.le_of_ble_eq_true rfl⟩) rfl rfl (Nat.le_of_ble_eq_true rfl) dX3_read_67 ⟨Nat.le_of_ble_eq_true rfl, Nat.le_of_ble_eq_true rfl⟩) C0 hP hD hS [] [0, 1, 2, 3, 4, 5, 6, 7] (by decide) rfl rfl rfl (by decide) (by decide) (fun r14 u H locs h hP hD hS => ?_)
    have hP : va_P g.1 vwCl [(a_th, .inr (3, [.ref a_pr, .ref a_tw, .ref a_tr, .ref a_ke, .int sl])), (a_tw, .inl (xcI g, 60, .inl f_tw)), (a_tr, .inl (xcI g, 180, .inl f_tr)), (a_ke, .inl (xcI g, kn, .inl f_ke)), (a_pr, .inr (1, [.ref a_lo, .ref a_hi, .ref a_st])), (a_lo, .inl (xcI g, 15, .inl f_lo)), (a_hi, .inl (xcI g, 15, .inl f_hi)), (a_st, .inl (xcI g, 6, .inl f_st))] H := hP
    have hD : va_D A [(a_th, .inr (3, [.ref a_pr, .ref a_tw, .ref a_tr, .ref a_ke, .int sl])), (a_tw, .inl (xcI g, 60, .inl f_tw)), (a_tr, .inl (xcI g, 180, .inl f_tr)), (a_ke, .inl (xcI g, kn, .inl f_ke)), (a_pr, .inr (1, [.ref a_lo, .ref a_hi, .ref a_st])), (a_lo, .inl (xcI g, 15, .inl f_lo)), (a_hi, .inl (xcI g, 15, .inl f_hi)), (a_st, .inl (xcI g, 6, .inl f_st))] := hD
    refine lv_isub hx hb dX3_read_70 ?_
    exact xreti () C0 hP hD hS h dX3_read_71
  have h := h.2 c13
  by_cases c15 : p_what = 7
  · have h := h.1 c15
    refine lv_tableIn (tgt := 53) hx hb dX3_read_1 (by rw [c15]; decide) (by rw [c15]; decide) (by rw [c15]; rfl) (by decide) ?_
    refine lv_iload_n hx hb dX3_read_53 rfl (lv_at hl 3 rfl) ?_
    refine lv_aload_n hx hb dX3_read_54 rfl (lv_at hl 0 rfl) ?_
    refine va_get (D := g.1) (ci := 3) (v := .int sl) (C := RX3) (T := TX3) (N := 5) hx hb hts in_X3_read_X3 hown hK hP 0 rfl rfl 4 (by decide) (hts (.fieldLink RX3 25 "RandomModels$Things" "sameLabel" "I") (by decide +kernel)) (fun _ h9 => h9) rfl dX3_read_55 ?_
    refine lv_iand hx hb dX3_read_58 ?_
    refine xi (wr := [(a_th, .inr (3, [.ref a_pr, .ref a_tw, .ref a_tr, .ref a_ke, .int sl])), (a_tw, .inl (xcI g, 60, .inl f_tw)), (a_tr, .inl (xcI g, 180, .inl f_tr)), (a_ke, .inl (xcI g, kn, .inl f_ke)), (a_pr, .inr (1, [.ref a_lo, .ref a_hi, .ref a_st])), (a_lo, .inl (xcI g, 15, .inl f_lo)), (a_hi, .inl (xcI g, 15, .inl f_hi)), (a_st, .inl (xcI g, 6, .inl f_st))]) (xrS (As := [.int (p_graph &&& sl)]) (rest := []) C0 hl.1 (c_J6_bitCount_0f7a4 l g _  (p_graph &&& sl) _ h) (va_cwS 1 hts gX3_read_J6_bitCount_0f7a4 rfl rfl rfl (by decide +kernel) ⟨Nat.le_of_ble_eq_true rfl, Nat.le_of_ble_eq_true rfl⟩) rfl rfl (Nat.le_of_ble_eq_true rfl) dX3_read_59 ⟨Nat.le_of_ble_eq_true rfl, Nat.le_of_ble_eq_true rfl⟩) C0 hP hD hS [] [0, 1, 2, 3, 4, 5, 6, 7] (by decide) rfl rfl rfl (by decide) (by decide) (fun r16 u H locs h hP hD hS => ?_)
    have hP : va_P g.1 vwCl [(a_th, .inr (3, [.ref a_pr, .ref a_tw, .ref a_tr, .ref a_ke, .int sl])), (a_tw, .inl (xcI g, 60, .inl f_tw)), (a_tr, .inl (xcI g, 180, .inl f_tr)), (a_ke, .inl (xcI g, kn, .inl f_ke)), (a_pr, .inr (1, [.ref a_lo, .ref a_hi, .ref a_st])), (a_lo, .inl (xcI g, 15, .inl f_lo)), (a_hi, .inl (xcI g, 15, .inl f_hi)), (a_st, .inl (xcI g, 6, .inl f_st))] H := hP
    have hD : va_D A [(a_th, .inr (3, [.ref a_pr, .ref a_tw, .ref a_tr, .ref a_ke, .int sl])), (a_tw, .inl (xcI g, 60, .inl f_tw)), (a_tr, .inl (xcI g, 180, .inl f_tr)), (a_ke, .inl (xcI g, kn, .inl f_ke)), (a_pr, .inr (1, [.ref a_lo, .ref a_hi, .ref a_st])), (a_lo, .inl (xcI g, 15, .inl f_lo)), (a_hi, .inl (xcI g, 15, .inl f_hi)), (a_st, .inl (xcI g, 6, .inl f_st))] := hD
    exact xreti () C0 hP hD hS h dX3_read_62
  have h := h.2 c15
  refine lv_tableOut (tgt := 72) hx hb dX3_read_1 (by have nc1 := lv_neT (a := 0) c1 rfl; have nc3 := lv_neT (a := 1) c3 rfl; have nc5 := lv_neT (a := 2) c5 rfl; have nc7 := lv_neT (a := 3) c7 rfl; have nc9 := lv_neT (a := 4) c9 rfl; have nc11 := lv_neT (a := 5) c11 rfl; have nc13 := lv_neT (a := 6) c13 rfl; have nc15 := lv_neT (a := 7) c15 rfl; omega) (by decide) ?_
  refine lv_iload_n hx hb dX3_read_72 rfl (lv_at hl 1 rfl) ?_
  refine lv_iload_n hx hb dX3_read_73 rfl (lv_at hl 2 rfl) ?_
  refine xi (wr := [(a_th, .inr (3, [.ref a_pr, .ref a_tw, .ref a_tr, .ref a_ke, .int sl])), (a_tw, .inl (xcI g, 60, .inl f_tw)), (a_tr, .inl (xcI g, 180, .inl f_tr)), (a_ke, .inl (xcI g, kn, .inl f_ke)), (a_pr, .inr (1, [.ref a_lo, .ref a_hi, .ref a_st])), (a_lo, .inl (xcI g, 15, .inl f_lo)), (a_hi, .inl (xcI g, 15, .inl f_hi)), (a_st, .inl (xcI g, 6, .inl f_st))]) (xrS (As := [.int p_what, .int p_packed]) (rest := []) C0 hl.1 (c_X3_unpack l g _  p_what p_packed _ h) (va_cwS 2 hts gX3_read_X3_unpack rfl rfl rfl (by decide +kernel) ⟨Nat.le_of_ble_eq_true rfl, Nat.le_of_ble_eq_true rfl⟩) rfl rfl (Nat.le_of_ble_eq_true rfl) dX3_read_74 ⟨Nat.le_of_ble_eq_true rfl, Nat.le_of_ble_eq_true rfl⟩) C0 hP hD hS [] [0, 1, 2, 3, 4, 5, 6, 7] (by decide) rfl rfl rfl (by decide) (by decide) (fun r17 u H locs h hP hD hS => ?_)
  have hP : va_P g.1 vwCl [(a_th, .inr (3, [.ref a_pr, .ref a_tw, .ref a_tr, .ref a_ke, .int sl])), (a_tw, .inl (xcI g, 60, .inl f_tw)), (a_tr, .inl (xcI g, 180, .inl f_tr)), (a_ke, .inl (xcI g, kn, .inl f_ke)), (a_pr, .inr (1, [.ref a_lo, .ref a_hi, .ref a_st])), (a_lo, .inl (xcI g, 15, .inl f_lo)), (a_hi, .inl (xcI g, 15, .inl f_hi)), (a_st, .inl (xcI g, 6, .inl f_st))] H := hP
  have hD : va_D A [(a_th, .inr (3, [.ref a_pr, .ref a_tw, .ref a_tr, .ref a_ke, .int sl])), (a_tw, .inl (xcI g, 60, .inl f_tw)), (a_tr, .inl (xcI g, 180, .inl f_tr)), (a_ke, .inl (xcI g, kn, .inl f_ke)), (a_pr, .inr (1, [.ref a_lo, .ref a_hi, .ref a_st])), (a_lo, .inl (xcI g, 15, .inl f_lo)), (a_hi, .inl (xcI g, 15, .inl f_hi)), (a_st, .inl (xcI g, 6, .inl f_st))] := hD
  exact xreti () C0 hP hD hS h dX3_read_77

def b_X3_withEdge_194 (f_tw : Nat → Int32) (f_tr : Nat → Int32) (f_lo : Nat → Int32) (f_hi : Nat → Int32) (f_st : Nat → Int32) (post : Int32 → Prop) (x7 : Int32) (x9 : Int32) (x10 : Int32) (y0 : Int32) (y1 : Int32) : Prop := (vp_in (3 : Int32) 7 ∧ (vp_in (4 : Int32) 7 ∧ (vp_in (5 : Int32) 7 ∧ (vp_in (6 : Int32) 7 ∧ post ((((y1 + (y0 <<< ((cSH (3 : Int32).toNatClampNeg) &&& 31))) + (x9 <<< ((cSH (4 : Int32).toNatClampNeg) &&& 31))) + (x7 <<< ((cSH (5 : Int32).toNatClampNeg) &&& 31))) + (x10 <<< ((cSH (6 : Int32).toNatClampNeg) &&& 31))) ))))
def b_X3_withEdge_151 (f_tw : Nat → Int32) (f_tr : Nat → Int32) (f_lo : Nat → Int32) (f_hi : Nat → Int32) (f_st : Nat → Int32) (post : Int32 → Prop) (x1 : Int32) (x4 : Int32) (x5 : Int32) (x6 : Int32) (x7 : Int32) (x8 : Int32) (x9 : Int32) (y0 : Int32) (y1 : Int32) : Prop := (vp_in (0 : Int32) 7 ∧ (vp_in (1 : Int32) 7 ∧ (vp_in (2 : Int32) 7 ∧ ((x8 = 0 → b_X3_withEdge_194 f_tw f_tr f_lo f_hi f_st post  x7 x9 (y1 + y0) (0 : Int32) (((x1 + ((1 : Int32) <<< ((cSH (0 : Int32).toNatClampNeg) &&& 31))) + (x6 <<< ((cSH (1 : Int32).toNatClampNeg) &&& 31))) + ((x4 + x5) <<< ((cSH (2 : Int32).toNatClampNeg) &&& 31)))) ∧ (¬ x8 = 0 → b_X3_withEdge_194 f_tw f_tr f_lo f_hi f_st post  x7 x9 (y1 + y0) (1 : Int32) (((x1 + ((1 : Int32) <<< ((cSH (0 : Int32).toNatClampNeg) &&& 31))) + (x6 <<< ((cSH (1 : Int32).toNatClampNeg) &&& 31))) + ((x4 + x5) <<< ((cSH (2 : Int32).toNatClampNeg) &&& 31))))))))
def b_X3_withEdge_141 (f_tw : Nat → Int32) (f_tr : Nat → Int32) (f_lo : Nat → Int32) (f_hi : Nat → Int32) (f_st : Nat → Int32) (post : Int32 → Prop) (x1 : Int32) (x4 : Int32) (x5 : Int32) (x6 : Int32) (x7 : Int32) (x8 : Int32) (x9 : Int32) (y0 : Int32) : Prop := ((x5 = 0 → b_X3_withEdge_151 f_tw f_tr f_lo f_hi f_st post  x1 x4 x5 x6 x7 x8 x9 (1 : Int32) y0) ∧ (¬ x5 = 0 → b_X3_withEdge_151 f_tw f_tr f_lo f_hi f_st post  x1 x4 x5 x6 x7 x8 x9 (0 : Int32) y0))
def b_X3_withEdge_108 (f_tw : Nat → Int32) (f_tr : Nat → Int32) (f_lo : Nat → Int32) (f_hi : Nat → Int32) (f_st : Nat → Int32) (post : Int32 → Prop) (x1 : Int32) (x4 : Int32) (x5 : Int32) (x6 : Int32) (x7 : Int32) (y0 : Int32) : Prop := wp_X3_unpack (4 : Int32) x1 (fun r13 => (∀ z14 : Int32, z14 = (if (0 : Int32) < (((if x4 < x5 then x5 else x4) + (1 : Int32)) - r13) then (((if x4 < x5 then x5 else x4) + (1 : Int32)) - r13) else (0 : Int32)) → ((x4 = 0 → b_X3_withEdge_141 f_tw f_tr f_lo f_hi f_st post  x1 x4 x5 x6 x7 y0 z14 (1 : Int32)) ∧ (¬ x4 = 0 → b_X3_withEdge_141 f_tw f_tr f_lo f_hi f_st post  x1 x4 x5 x6 x7 y0 z14 (0 : Int32)))))
def b_X3_withEdge_107 (f_tw : Nat → Int32) (f_tr : Nat → Int32) (f_lo : Nat → Int32) (f_hi : Nat → Int32) (f_st : Nat → Int32) (post : Int32 → Prop) (x1 : Int32) (x4 : Int32) (x5 : Int32) (x6 : Int32) (x7 : Int32) : Prop := b_X3_withEdge_108 f_tw f_tr f_lo f_hi f_st post  x1 x4 x5 x6 x7 (0 : Int32)
def wp_X3_withEdge (p_packed : Int32) (p_graph : Int32) (p_p : Int32) (f_tw : Nat → Int32) (f_tr : Nat → Int32) (f_lo : Nat → Int32) (f_hi : Nat → Int32) (f_st : Nat → Int32) (post : Int32 → Prop) : Prop := wp_X1_low p_p f_lo (fun r1 => wp_X1_degree p_graph r1 f_st (fun r2 => wp_X1_high p_p f_hi (fun r3 => wp_X1_degree p_graph r3 f_st (fun r4 => wp_X3_countWhole p_graph (p_p * (4 : Int32)) (4 : Int32) 60 f_tw (fun r5 => wp_X3_countWhole p_graph (p_p * (12 : Int32)) (12 : Int32) 180 f_tr (fun r6 => ((r5 = 0 → ((r6 = 0 → wp_X1_low p_p f_lo (fun r9 => wp_X1_high p_p f_hi (fun r10 => wp_X1_hangTogether p_graph r9 r10 f_lo f_hi (fun r11 => ((r11 = 0 → b_X3_withEdge_108 f_tw f_tr f_lo f_hi f_st post  p_packed r2 r4 r5 r6 (1 : Int32)) ∧ (¬ r11 = 0 → b_X3_withEdge_107 f_tw f_tr f_lo f_hi f_st post  p_packed r2 r4 r5 r6)))))) ∧ (¬ r6 = 0 → b_X3_withEdge_107 f_tw f_tr f_lo f_hi f_st post  p_packed r2 r4 r5 r6))) ∧ (¬ r5 = 0 → b_X3_withEdge_107 f_tw f_tr f_lo f_hi f_st post  p_packed r2 r4 r5 r6))))))))
abbrev q_X3_withEdge (g : xG) (a_th : Nat) (a_tw : Nat) (a_tr : Nat) (a_ke : Nat) (a_pr : Nat) (a_lo : Nat) (a_hi : Nat) (a_st : Nat) (sl : Int32) (f_tw : Nat → Int32) (f_tr : Nat → Int32) (kn : Nat) (f_ke : Nat → Int32) (f_lo : Nat → Int32) (f_hi : Nat → Int32) (f_st : Nat → Int32) (post : Int32 → Prop) : (Nat → Prop) → Array Value → State → Outcome → State → Prop := xQi g (fun (r : Int32) (u : Unit) => post r ) (fun (_ : Unit) => [(a_th, .inr (3, [.ref a_pr, .ref a_tw, .ref a_tr, .ref a_ke, .int sl])), (a_tw, .inl (xcI g, 60, .inl f_tw)), (a_tr, .inl (xcI g, 180, .inl f_tr)), (a_ke, .inl (xcI g, kn, .inl f_ke)), (a_pr, .inr (1, [.ref a_lo, .ref a_hi, .ref a_st])), (a_lo, .inl (xcI g, 15, .inl f_lo)), (a_hi, .inl (xcI g, 15, .inl f_hi)), (a_st, .inl (xcI g, 6, .inl f_st))])
theorem in_X3_withEdge_X3 : ∀ w ∈ u_ws RX3 TX3 5, w ∈ wsX3_withEdge := by decide +kernel
set_option maxHeartbeats 1000000 in
set_option maxRecDepth 100000 in
theorem w_X3_withEdge_194 {p : Program} {l : Launch} {e : Env} {s : State} {m : MethodId} {args : Array Value} {below : List Frame} {meth : Method} {c : Code} {A : Nat → Prop} {g : xG} (C0 : vx g p s m args meth c cX3_withEdge (some .int) 11 yX3_withEdge wsX3_withEdge A) (a_th : Nat) (a_tw : Nat) (a_tr : Nat) (a_ke : Nat) (a_pr : Nat) (a_lo : Nat) (a_hi : Nat) (a_st : Nat) (sl : Int32) (f_tw : Nat → Int32) (f_tr : Nat → Int32) (kn : Nat) (f_ke : Nat → Int32) (f_lo : Nat → Int32) (f_hi : Nat → Int32) (f_st : Nat → Int32) (post : Int32 → Prop) (x7 : Int32) (x9 : Int32) (x10 : Int32) (y0 : Int32) (y1 : Int32) {H : Heap} {locs : List Loc} {ls : Array Slot} (hP : va_P g.1 vwCl [(a_th, .inr (3, [.ref a_pr, .ref a_tw, .ref a_tr, .ref a_ke, .int sl])), (a_tw, .inl (xcI g, 60, .inl f_tw)), (a_tr, .inl (xcI g, 180, .inl f_tr)), (a_ke, .inl (xcI g, kn, .inl f_ke)), (a_pr, .inr (1, [.ref a_lo, .ref a_hi, .ref a_st])), (a_lo, .inl (xcI g, 15, .inl f_lo)), (a_hi, .inl (xcI g, 15, .inl f_hi)), (a_st, .inl (xcI g, 6, .inl f_st))] H) (hD : va_D A [(a_th, .inr (3, [.ref a_pr, .ref a_tw, .ref a_tr, .ref a_ke, .int sl])), (a_tw, .inl (xcI g, 60, .inl f_tw)), (a_tr, .inl (xcI g, 180, .inl f_tr)), (a_ke, .inl (xcI g, kn, .inl f_ke)), (a_pr, .inr (1, [.ref a_lo, .ref a_hi, .ref a_st])), (a_lo, .inl (xcI g, 15, .inl f_lo)), (a_hi, .inl (xcI g, 15, .inl f_hi)), (a_st, .inl (xcI g, 6, .inl f_st))]) (hS : va_S A s.heap H locs) (hl : lv_has ls 11 [(7, .int x7), (9, .int x9), (10, .int x10)]) (h : b_X3_withEdge_194 f_tw f_tr f_lo f_hi f_st post  x7 x9 x10 y0 y1) : W p l e ({ frames := 2, cells := 0, slots := 0, locals := 42 } : Room) s m args below meth c H locs 0 0 (MQ below ((q_X3_withEdge g a_th a_tw a_tr a_ke a_pr a_lo a_hi a_st sl f_tw f_tr kn f_ke f_lo f_hi f_st post) A) args s 0 0 A) (F0 m 194 ls [.int y0, .int y1]) := by
  obtain ⟨hx, hb, hr, hml, hown, hin, hts, hlocks, hA, hK, hZ⟩ := id C0
  have hown : s.vm.findClass RX3 = some m.cls := hown
  unfold b_X3_withEdge_194 at h
  refine va_gets hx hb hZ.1.1 hS hown (hts (.fieldLink RX3 76 "RandomModels$Things" "SHIFTS" "[I") (by decide +kernel)) (fun _ h9 => h9) dX3_withEdge_194 ?_
  refine lv_iconst (v := 3) hx hb dX3_withEdge_197 (by decide) ?_
  obtain ⟨c21, h⟩ := h
  refine va_ti (v := .int (cSH (3 : Int32).toNatClampNeg)) hx hb hZ.1.2 hS c21 rfl dX3_withEdge_198 ?_
  refine lv_ishl hx hb dX3_withEdge_199 ?_
  refine lv_iadd hx hb dX3_withEdge_200 ?_
  refine lv_iload hx hb dX3_withEdge_201 (lv_at hl 1 rfl) ?_
  refine va_gets hx hb hZ.1.1 hS hown (hts (.fieldLink RX3 76 "RandomModels$Things" "SHIFTS" "[I") (by decide +kernel)) (fun _ h9 => h9) dX3_withEdge_203 ?_
  refine lv_iconst (v := 4) hx hb dX3_withEdge_206 (by decide) ?_
  obtain ⟨c22, h⟩ := h
  refine va_ti (v := .int (cSH (4 : Int32).toNatClampNeg)) hx hb hZ.1.2 hS c22 rfl dX3_withEdge_207 ?_
  refine lv_ishl hx hb dX3_withEdge_208 ?_
  refine lv_iadd hx hb dX3_withEdge_209 ?_
  refine lv_iload hx hb dX3_withEdge_210 (lv_at hl 0 rfl) ?_
  refine va_gets hx hb hZ.1.1 hS hown (hts (.fieldLink RX3 76 "RandomModels$Things" "SHIFTS" "[I") (by decide +kernel)) (fun _ h9 => h9) dX3_withEdge_212 ?_
  refine lv_iconst (v := 5) hx hb dX3_withEdge_215 (by decide) ?_
  obtain ⟨c23, h⟩ := h
  refine va_ti (v := .int (cSH (5 : Int32).toNatClampNeg)) hx hb hZ.1.2 hS c23 rfl dX3_withEdge_216 ?_
  refine lv_ishl hx hb dX3_withEdge_217 ?_
  refine lv_iadd hx hb dX3_withEdge_218 ?_
  refine lv_iload hx hb dX3_withEdge_219 (lv_at hl 2 rfl) ?_
  refine va_gets hx hb hZ.1.1 hS hown (hts (.fieldLink RX3 76 "RandomModels$Things" "SHIFTS" "[I") (by decide +kernel)) (fun _ h9 => h9) dX3_withEdge_221 ?_
  refine lv_bipush (v := 6) hx hb dX3_withEdge_224 (by decide) ?_
  obtain ⟨c24, h⟩ := h
  refine va_ti (v := .int (cSH (6 : Int32).toNatClampNeg)) hx hb hZ.1.2 hS c24 rfl dX3_withEdge_226 ?_
  refine lv_ishl hx hb dX3_withEdge_227 ?_
  refine lv_iadd hx hb dX3_withEdge_228 ?_
  exact xreti () C0 hP hD hS h dX3_withEdge_229
set_option maxHeartbeats 1000000 in
set_option maxRecDepth 100000 in
theorem w_X3_withEdge_151 {p : Program} {l : Launch} {e : Env} {s : State} {m : MethodId} {args : Array Value} {below : List Frame} {meth : Method} {c : Code} {A : Nat → Prop} {g : xG} (C0 : vx g p s m args meth c cX3_withEdge (some .int) 11 yX3_withEdge wsX3_withEdge A) (a_th : Nat) (a_tw : Nat) (a_tr : Nat) (a_ke : Nat) (a_pr : Nat) (a_lo : Nat) (a_hi : Nat) (a_st : Nat) (sl : Int32) (f_tw : Nat → Int32) (f_tr : Nat → Int32) (kn : Nat) (f_ke : Nat → Int32) (f_lo : Nat → Int32) (f_hi : Nat → Int32) (f_st : Nat → Int32) (post : Int32 → Prop) (x1 : Int32) (x4 : Int32) (x5 : Int32) (x6 : Int32) (x7 : Int32) (x8 : Int32) (x9 : Int32) (y0 : Int32) (y1 : Int32) {H : Heap} {locs : List Loc} {ls : Array Slot} (hP : va_P g.1 vwCl [(a_th, .inr (3, [.ref a_pr, .ref a_tw, .ref a_tr, .ref a_ke, .int sl])), (a_tw, .inl (xcI g, 60, .inl f_tw)), (a_tr, .inl (xcI g, 180, .inl f_tr)), (a_ke, .inl (xcI g, kn, .inl f_ke)), (a_pr, .inr (1, [.ref a_lo, .ref a_hi, .ref a_st])), (a_lo, .inl (xcI g, 15, .inl f_lo)), (a_hi, .inl (xcI g, 15, .inl f_hi)), (a_st, .inl (xcI g, 6, .inl f_st))] H) (hD : va_D A [(a_th, .inr (3, [.ref a_pr, .ref a_tw, .ref a_tr, .ref a_ke, .int sl])), (a_tw, .inl (xcI g, 60, .inl f_tw)), (a_tr, .inl (xcI g, 180, .inl f_tr)), (a_ke, .inl (xcI g, kn, .inl f_ke)), (a_pr, .inr (1, [.ref a_lo, .ref a_hi, .ref a_st])), (a_lo, .inl (xcI g, 15, .inl f_lo)), (a_hi, .inl (xcI g, 15, .inl f_hi)), (a_st, .inl (xcI g, 6, .inl f_st))]) (hS : va_S A s.heap H locs) (hl : lv_has ls 11 [(1, .int x1), (4, .int x4), (5, .int x5), (6, .int x6), (7, .int x7), (8, .int x8), (9, .int x9)]) (h : b_X3_withEdge_151 f_tw f_tr f_lo f_hi f_st post  x1 x4 x5 x6 x7 x8 x9 y0 y1) : W p l e ({ frames := 2, cells := 0, slots := 0, locals := 42 } : Room) s m args below meth c H locs 0 0 (MQ below ((q_X3_withEdge g a_th a_tw a_tr a_ke a_pr a_lo a_hi a_st sl f_tw f_tr kn f_ke f_lo f_hi f_st post) A) args s 0 0 A) (F0 m 151 ls [.int y0, .int y1]) := by
  obtain ⟨hx, hb, hr, hml, hown, hin, hts, hlocks, hA, hK, hZ⟩ := id C0
  have hown : s.vm.findClass RX3 = some m.cls := hown
  unfold b_X3_withEdge_151 at h
  refine lv_iadd hx hb dX3_withEdge_151 ?_
  refine lv_istore (lv' := [(10, .int (y1 + y0)), (1, .int x1), (4, .int x4), (5, .int x5), (6, .int x6), (7, .int x7), (8, .int x8), (9, .int x9)]) hx hb dX3_withEdge_152 hl (by decide) rfl (fun ls hl => ?_)
  refine lv_iload_n hx hb dX3_withEdge_154 rfl (lv_at hl 1 rfl) ?_
  refine lv_iconst (v := 1) hx hb dX3_withEdge_155 (by decide) ?_
  refine va_gets hx hb hZ.1.1 hS hown (hts (.fieldLink RX3 76 "RandomModels$Things" "SHIFTS" "[I") (by decide +kernel)) (fun _ h9 => h9) dX3_withEdge_156 ?_
  refine lv_iconst (v := 0) hx hb dX3_withEdge_159 (by decide) ?_
  obtain ⟨c17, h⟩ := h
  refine va_ti (v := .int (cSH (0 : Int32).toNatClampNeg)) hx hb hZ.1.2 hS c17 rfl dX3_withEdge_160 ?_
  refine lv_ishl hx hb dX3_withEdge_161 ?_
  refine lv_iadd hx hb dX3_withEdge_162 ?_
  refine lv_iload hx hb dX3_withEdge_163 (lv_at hl 4 rfl) ?_
  refine va_gets hx hb hZ.1.1 hS hown (hts (.fieldLink RX3 76 "RandomModels$Things" "SHIFTS" "[I") (by decide +kernel)) (fun _ h9 => h9) dX3_withEdge_165 ?_
  refine lv_iconst (v := 1) hx hb dX3_withEdge_168 (by decide) ?_
  obtain ⟨c18, h⟩ := h
  refine va_ti (v := .int (cSH (1 : Int32).toNatClampNeg)) hx hb hZ.1.2 hS c18 rfl dX3_withEdge_169 ?_
  refine lv_ishl hx hb dX3_withEdge_170 ?_
  refine lv_iadd hx hb dX3_withEdge_171 ?_
  refine lv_iload hx hb dX3_withEdge_172 (lv_at hl 2 rfl) ?_
  refine lv_iload hx hb dX3_withEdge_174 (lv_at hl 3 rfl) ?_
  refine lv_iadd hx hb dX3_withEdge_176 ?_
  refine va_gets hx hb hZ.1.1 hS hown (hts (.fieldLink RX3 76 "RandomModels$Things" "SHIFTS" "[I") (by decide +kernel)) (fun _ h9 => h9) dX3_withEdge_177 ?_
  refine lv_iconst (v := 2) hx hb dX3_withEdge_180 (by decide) ?_
  obtain ⟨c19, h⟩ := h
  refine va_ti (v := .int (cSH (2 : Int32).toNatClampNeg)) hx hb hZ.1.2 hS c19 rfl dX3_withEdge_181 ?_
  refine lv_ishl hx hb dX3_withEdge_182 ?_
  refine lv_iadd hx hb dX3_withEdge_183 ?_
  refine lv_iload hx hb dX3_withEdge_184 (lv_at hl 6 rfl) ?_
  refine lv_if_eq (tgt := 193) hx hb dX3_withEdge_186 (by decide) (fun c20 => ?_) (fun c20 => ?_)
  · have h := h.1 c20
    refine lv_iconst (v := 0) hx hb dX3_withEdge_193 (by decide) ?_
    exact w_X3_withEdge_194 C0 a_th a_tw a_tr a_ke a_pr a_lo a_hi a_st sl f_tw f_tr kn f_ke f_lo f_hi f_st post    x7 x9 (y1 + y0) (0 : Int32) (((x1 + ((1 : Int32) <<< ((cSH (0 : Int32).toNatClampNeg) &&& 31))) + (x6 <<< ((cSH (1 : Int32).toNatClampNeg) &&& 31))) + ((x4 + x5) <<< ((cSH (2 : Int32).toNatClampNeg) &&& 31))) hP hD hS (lv_sub hl [5, 7, 0] rfl) h
  · have h := h.2 c20
    refine lv_iconst (v := 1) hx hb dX3_withEdge_189 (by decide) ?_
    refine lv_goto (tgt := 194) hx hb dX3_withEdge_190 (by decide) ?_
    exact w_X3_withEdge_194 C0 a_th a_tw a_tr a_ke a_pr a_lo a_hi a_st sl f_tw f_tr kn f_ke f_lo f_hi f_st post    x7 x9 (y1 + y0) (1 : Int32) (((x1 + ((1 : Int32) <<< ((cSH (0 : Int32).toNatClampNeg) &&& 31))) + (x6 <<< ((cSH (1 : Int32).toNatClampNeg) &&& 31))) + ((x4 + x5) <<< ((cSH (2 : Int32).toNatClampNeg) &&& 31))) hP hD hS (lv_sub hl [5, 7, 0] rfl) h
set_option maxHeartbeats 1000000 in
set_option maxRecDepth 100000 in
theorem w_X3_withEdge_141 {p : Program} {l : Launch} {e : Env} {s : State} {m : MethodId} {args : Array Value} {below : List Frame} {meth : Method} {c : Code} {A : Nat → Prop} {g : xG} (C0 : vx g p s m args meth c cX3_withEdge (some .int) 11 yX3_withEdge wsX3_withEdge A) (a_th : Nat) (a_tw : Nat) (a_tr : Nat) (a_ke : Nat) (a_pr : Nat) (a_lo : Nat) (a_hi : Nat) (a_st : Nat) (sl : Int32) (f_tw : Nat → Int32) (f_tr : Nat → Int32) (kn : Nat) (f_ke : Nat → Int32) (f_lo : Nat → Int32) (f_hi : Nat → Int32) (f_st : Nat → Int32) (post : Int32 → Prop) (x1 : Int32) (x4 : Int32) (x5 : Int32) (x6 : Int32) (x7 : Int32) (x8 : Int32) (x9 : Int32) (y0 : Int32) {H : Heap} {locs : List Loc} {ls : Array Slot} (hP : va_P g.1 vwCl [(a_th, .inr (3, [.ref a_pr, .ref a_tw, .ref a_tr, .ref a_ke, .int sl])), (a_tw, .inl (xcI g, 60, .inl f_tw)), (a_tr, .inl (xcI g, 180, .inl f_tr)), (a_ke, .inl (xcI g, kn, .inl f_ke)), (a_pr, .inr (1, [.ref a_lo, .ref a_hi, .ref a_st])), (a_lo, .inl (xcI g, 15, .inl f_lo)), (a_hi, .inl (xcI g, 15, .inl f_hi)), (a_st, .inl (xcI g, 6, .inl f_st))] H) (hD : va_D A [(a_th, .inr (3, [.ref a_pr, .ref a_tw, .ref a_tr, .ref a_ke, .int sl])), (a_tw, .inl (xcI g, 60, .inl f_tw)), (a_tr, .inl (xcI g, 180, .inl f_tr)), (a_ke, .inl (xcI g, kn, .inl f_ke)), (a_pr, .inr (1, [.ref a_lo, .ref a_hi, .ref a_st])), (a_lo, .inl (xcI g, 15, .inl f_lo)), (a_hi, .inl (xcI g, 15, .inl f_hi)), (a_st, .inl (xcI g, 6, .inl f_st))]) (hS : va_S A s.heap H locs) (hl : lv_has ls 11 [(1, .int x1), (4, .int x4), (5, .int x5), (6, .int x6), (7, .int x7), (8, .int x8), (9, .int x9)]) (h : b_X3_withEdge_141 f_tw f_tr f_lo f_hi f_st post  x1 x4 x5 x6 x7 x8 x9 y0) : W p l e ({ frames := 2, cells := 0, slots := 0, locals := 42 } : Room) s m args below meth c H locs 0 0 (MQ below ((q_X3_withEdge g a_th a_tw a_tr a_ke a_pr a_lo a_hi a_st sl f_tw f_tr kn f_ke f_lo f_hi f_st post) A) args s 0 0 A) (F0 m 141 ls [.int y0]) := by
  obtain ⟨hx, hb, hr, hml, hown, hin, hts, hlocks, hA, hK, hZ⟩ := id C0
  have hown : s.vm.findClass RX3 = some m.cls := hown
  unfold b_X3_withEdge_141 at h
  refine lv_iload hx hb dX3_withEdge_141 (lv_at hl 2 rfl) ?_
  refine lv_if_ne (tgt := 150) hx hb dX3_withEdge_143 (by decide) (fun c16 => ?_) (fun c16 => ?_)
  · have h := h.2 c16
    refine lv_iconst (v := 0) hx hb dX3_withEdge_150 (by decide) ?_
    exact w_X3_withEdge_151 C0 a_th a_tw a_tr a_ke a_pr a_lo a_hi a_st sl f_tw f_tr kn f_ke f_lo f_hi f_st post    x1 x4 x5 x6 x7 x8 x9 (0 : Int32) y0 hP hD hS (lv_sub hl [0, 1, 2, 3, 4, 5, 6] rfl) h
  · have h := h.1 c16
    refine lv_iconst (v := 1) hx hb dX3_withEdge_146 (by decide) ?_
    refine lv_goto (tgt := 151) hx hb dX3_withEdge_147 (by decide) ?_
    exact w_X3_withEdge_151 C0 a_th a_tw a_tr a_ke a_pr a_lo a_hi a_st sl f_tw f_tr kn f_ke f_lo f_hi f_st post    x1 x4 x5 x6 x7 x8 x9 (1 : Int32) y0 hP hD hS (lv_sub hl [0, 1, 2, 3, 4, 5, 6] rfl) h
set_option maxHeartbeats 1000000 in
set_option maxRecDepth 100000 in
theorem w_X3_withEdge_108 {p : Program} {l : Launch} {e : Env} {s : State} {m : MethodId} {args : Array Value} {below : List Frame} {meth : Method} {c : Code} {A : Nat → Prop} {g : xG} (C0 : vx g p s m args meth c cX3_withEdge (some .int) 11 yX3_withEdge wsX3_withEdge A) (a_th : Nat) (a_tw : Nat) (a_tr : Nat) (a_ke : Nat) (a_pr : Nat) (a_lo : Nat) (a_hi : Nat) (a_st : Nat) (sl : Int32) (f_tw : Nat → Int32) (f_tr : Nat → Int32) (kn : Nat) (f_ke : Nat → Int32) (f_lo : Nat → Int32) (f_hi : Nat → Int32) (f_st : Nat → Int32) (post : Int32 → Prop) (x1 : Int32) (x4 : Int32) (x5 : Int32) (x6 : Int32) (x7 : Int32) (y0 : Int32) {H : Heap} {locs : List Loc} {ls : Array Slot} (hP : va_P g.1 vwCl [(a_th, .inr (3, [.ref a_pr, .ref a_tw, .ref a_tr, .ref a_ke, .int sl])), (a_tw, .inl (xcI g, 60, .inl f_tw)), (a_tr, .inl (xcI g, 180, .inl f_tr)), (a_ke, .inl (xcI g, kn, .inl f_ke)), (a_pr, .inr (1, [.ref a_lo, .ref a_hi, .ref a_st])), (a_lo, .inl (xcI g, 15, .inl f_lo)), (a_hi, .inl (xcI g, 15, .inl f_hi)), (a_st, .inl (xcI g, 6, .inl f_st))] H) (hD : va_D A [(a_th, .inr (3, [.ref a_pr, .ref a_tw, .ref a_tr, .ref a_ke, .int sl])), (a_tw, .inl (xcI g, 60, .inl f_tw)), (a_tr, .inl (xcI g, 180, .inl f_tr)), (a_ke, .inl (xcI g, kn, .inl f_ke)), (a_pr, .inr (1, [.ref a_lo, .ref a_hi, .ref a_st])), (a_lo, .inl (xcI g, 15, .inl f_lo)), (a_hi, .inl (xcI g, 15, .inl f_hi)), (a_st, .inl (xcI g, 6, .inl f_st))]) (hS : va_S A s.heap H locs) (hl : lv_has ls 11 [(1, .int x1), (4, .int x4), (5, .int x5), (6, .int x6), (7, .int x7)]) (h : b_X3_withEdge_108 f_tw f_tr f_lo f_hi f_st post  x1 x4 x5 x6 x7 y0) : W p l e ({ frames := 2, cells := 0, slots := 0, locals := 42 } : Room) s m args below meth c H locs 0 0 (MQ below ((q_X3_withEdge g a_th a_tw a_tr a_ke a_pr a_lo a_hi a_st sl f_tw f_tr kn f_ke f_lo f_hi f_st post) A) args s 0 0 A) (F0 m 108 ls [.int y0]) := by
  obtain ⟨hx, hb, hr, hml, hown, hin, hts, hlocks, hA, hK, hZ⟩ := id C0
  have hown : s.vm.findClass RX3 = some m.cls := hown
  unfold b_X3_withEdge_108 at h
  refine lv_istore (lv' := [(8, .int y0), (1, .int x1), (4, .int x4), (5, .int x5), (6, .int x6), (7, .int x7)]) hx hb dX3_withEdge_108 hl (by decide) rfl (fun ls hl => ?_)
  refine lv_iconst (v := 0) hx hb dX3_withEdge_110 (by decide) ?_
  refine lv_iload hx hb dX3_withEdge_111 (lv_at hl 2 rfl) ?_
  refine lv_iload hx hb dX3_withEdge_113 (lv_at hl 3 rfl) ?_
  refine va_mmax hx hb (hml.trans hl.1.symm) hown (hts (.methodLink RX3 93 Lib.Math.max.name) (by decide +kernel)) (hts (.static Lib.Math.max.name) (by decide +kernel)) (hts (.initialized "java/lang/Math") (by decide +kernel)) (hts (.code Lib.Math.max.name Lib.Math.max.code 2 (some .int)) (by decide +kernel)) (Nat.le_of_ble_eq_true rfl) (Nat.le_of_ble_eq_true rfl) (Nat.le_of_ble_eq_true rfl) (Nat.le_of_ble_eq_true rfl) dX3_withEdge_115 ?_
  refine lv_iconst (v := 1) hx hb dX3_withEdge_118 (by decide) ?_
  refine lv_iadd hx hb dX3_withEdge_119 ?_
  refine lv_iconst (v := 4) hx hb dX3_withEdge_120 (by decide) ?_
  refine lv_iload_n hx hb dX3_withEdge_121 rfl (lv_at hl 1 rfl) ?_
  refine xi (wr := [(a_th, .inr (3, [.ref a_pr, .ref a_tw, .ref a_tr, .ref a_ke, .int sl])), (a_tw, .inl (xcI g, 60, .inl f_tw)), (a_tr, .inl (xcI g, 180, .inl f_tr)), (a_ke, .inl (xcI g, kn, .inl f_ke)), (a_pr, .inr (1, [.ref a_lo, .ref a_hi, .ref a_st])), (a_lo, .inl (xcI g, 15, .inl f_lo)), (a_hi, .inl (xcI g, 15, .inl f_hi)), (a_st, .inl (xcI g, 6, .inl f_st))]) (xrS (As := [.int (4 : Int32), .int x1]) (rest := [.int ((if x4 < x5 then x5 else x4) + (1 : Int32)), .int (0 : Int32)]) C0 hl.1 (c_X3_unpack l g _  (4 : Int32) x1 _ h) (va_cwS 2 hts gX3_withEdge_X3_unpack rfl rfl rfl (by decide +kernel) ⟨Nat.le_of_ble_eq_true rfl, Nat.le_of_ble_eq_true rfl⟩) rfl rfl (Nat.le_of_ble_eq_true rfl) dX3_withEdge_122 ⟨Nat.le_of_ble_eq_true rfl, Nat.le_of_ble_eq_true rfl⟩) C0 hP hD hS [] [0, 1, 2, 3, 4, 5, 6, 7] (by decide) rfl rfl rfl (by decide) (by decide) (fun r13 u H locs h hP hD hS => ?_)
  have hP : va_P g.1 vwCl [(a_th, .inr (3, [.ref a_pr, .ref a_tw, .ref a_tr, .ref a_ke, .int sl])), (a_tw, .inl (xcI g, 60, .inl f_tw)), (a_tr, .inl (xcI g, 180, .inl f_tr)), (a_ke, .inl (xcI g, kn, .inl f_ke)), (a_pr, .inr (1, [.ref a_lo, .ref a_hi, .ref a_st])), (a_lo, .inl (xcI g, 15, .inl f_lo)), (a_hi, .inl (xcI g, 15, .inl f_hi)), (a_st, .inl (xcI g, 6, .inl f_st))] H := hP
  have hD : va_D A [(a_th, .inr (3, [.ref a_pr, .ref a_tw, .ref a_tr, .ref a_ke, .int sl])), (a_tw, .inl (xcI g, 60, .inl f_tw)), (a_tr, .inl (xcI g, 180, .inl f_tr)), (a_ke, .inl (xcI g, kn, .inl f_ke)), (a_pr, .inr (1, [.ref a_lo, .ref a_hi, .ref a_st])), (a_lo, .inl (xcI g, 15, .inl f_lo)), (a_hi, .inl (xcI g, 15, .inl f_hi)), (a_st, .inl (xcI g, 6, .inl f_st))] := hD
  refine lv_isub hx hb dX3_withEdge_125 ?_
  refine va_mmax hx hb (hml.trans hl.1.symm) hown (hts (.methodLink RX3 93 Lib.Math.max.name) (by decide +kernel)) (hts (.static Lib.Math.max.name) (by decide +kernel)) (hts (.initialized "java/lang/Math") (by decide +kernel)) (hts (.code Lib.Math.max.name Lib.Math.max.code 2 (some .int)) (by decide +kernel)) (Nat.le_of_ble_eq_true rfl) (Nat.le_of_ble_eq_true rfl) (Nat.le_of_ble_eq_true rfl) (Nat.le_of_ble_eq_true rfl) dX3_withEdge_126 ?_
  refine lv_topi (fun z14 ez14 => ?_)
  have h := h z14 ez14
  refine lv_istore (lv' := [(9, .int z14), (8, .int y0), (1, .int x1), (4, .int x4), (5, .int x5), (6, .int x6), (7, .int x7)]) hx hb dX3_withEdge_129 hl (by decide) rfl (fun ls hl => ?_)
  refine lv_iload hx hb dX3_withEdge_131 (lv_at hl 3 rfl) ?_
  refine lv_if_ne (tgt := 140) hx hb dX3_withEdge_133 (by decide) (fun c15 => ?_) (fun c15 => ?_)
  · have h := h.2 c15
    refine lv_iconst (v := 0) hx hb dX3_withEdge_140 (by decide) ?_
    exact w_X3_withEdge_141 C0 a_th a_tw a_tr a_ke a_pr a_lo a_hi a_st sl f_tw f_tr kn f_ke f_lo f_hi f_st post    x1 x4 x5 x6 x7 y0 z14 (0 : Int32) hP hD hS (lv_sub hl [2, 3, 4, 5, 6, 1, 0] rfl) h
  · have h := h.1 c15
    refine lv_iconst (v := 1) hx hb dX3_withEdge_136 (by decide) ?_
    refine lv_goto (tgt := 141) hx hb dX3_withEdge_137 (by decide) ?_
    exact w_X3_withEdge_141 C0 a_th a_tw a_tr a_ke a_pr a_lo a_hi a_st sl f_tw f_tr kn f_ke f_lo f_hi f_st post    x1 x4 x5 x6 x7 y0 z14 (1 : Int32) hP hD hS (lv_sub hl [2, 3, 4, 5, 6, 1, 0] rfl) h
set_option maxHeartbeats 1000000 in
set_option maxRecDepth 100000 in
theorem w_X3_withEdge_107 {p : Program} {l : Launch} {e : Env} {s : State} {m : MethodId} {args : Array Value} {below : List Frame} {meth : Method} {c : Code} {A : Nat → Prop} {g : xG} (C0 : vx g p s m args meth c cX3_withEdge (some .int) 11 yX3_withEdge wsX3_withEdge A) (a_th : Nat) (a_tw : Nat) (a_tr : Nat) (a_ke : Nat) (a_pr : Nat) (a_lo : Nat) (a_hi : Nat) (a_st : Nat) (sl : Int32) (f_tw : Nat → Int32) (f_tr : Nat → Int32) (kn : Nat) (f_ke : Nat → Int32) (f_lo : Nat → Int32) (f_hi : Nat → Int32) (f_st : Nat → Int32) (post : Int32 → Prop) (x1 : Int32) (x4 : Int32) (x5 : Int32) (x6 : Int32) (x7 : Int32) {H : Heap} {locs : List Loc} {ls : Array Slot} (hP : va_P g.1 vwCl [(a_th, .inr (3, [.ref a_pr, .ref a_tw, .ref a_tr, .ref a_ke, .int sl])), (a_tw, .inl (xcI g, 60, .inl f_tw)), (a_tr, .inl (xcI g, 180, .inl f_tr)), (a_ke, .inl (xcI g, kn, .inl f_ke)), (a_pr, .inr (1, [.ref a_lo, .ref a_hi, .ref a_st])), (a_lo, .inl (xcI g, 15, .inl f_lo)), (a_hi, .inl (xcI g, 15, .inl f_hi)), (a_st, .inl (xcI g, 6, .inl f_st))] H) (hD : va_D A [(a_th, .inr (3, [.ref a_pr, .ref a_tw, .ref a_tr, .ref a_ke, .int sl])), (a_tw, .inl (xcI g, 60, .inl f_tw)), (a_tr, .inl (xcI g, 180, .inl f_tr)), (a_ke, .inl (xcI g, kn, .inl f_ke)), (a_pr, .inr (1, [.ref a_lo, .ref a_hi, .ref a_st])), (a_lo, .inl (xcI g, 15, .inl f_lo)), (a_hi, .inl (xcI g, 15, .inl f_hi)), (a_st, .inl (xcI g, 6, .inl f_st))]) (hS : va_S A s.heap H locs) (hl : lv_has ls 11 [(1, .int x1), (4, .int x4), (5, .int x5), (6, .int x6), (7, .int x7)]) (h : b_X3_withEdge_107 f_tw f_tr f_lo f_hi f_st post  x1 x4 x5 x6 x7) : W p l e ({ frames := 2, cells := 0, slots := 0, locals := 42 } : Room) s m args below meth c H locs 0 0 (MQ below ((q_X3_withEdge g a_th a_tw a_tr a_ke a_pr a_lo a_hi a_st sl f_tw f_tr kn f_ke f_lo f_hi f_st post) A) args s 0 0 A) (F0 m 107 ls []) := by
  obtain ⟨hx, hb, hr, hml, hown, hin, hts, hlocks, hA, hK, hZ⟩ := id C0
  have hown : s.vm.findClass RX3 = some m.cls := hown
  unfold b_X3_withEdge_107 at h
  refine lv_iconst (v := 0) hx hb dX3_withEdge_107 (by decide) ?_
  exact w_X3_withEdge_108 C0 a_th a_tw a_tr a_ke a_pr a_lo a_hi a_st sl f_tw f_tr kn f_ke f_lo f_hi f_st post    x1 x4 x5 x6 x7 (0 : Int32) hP hD hS (lv_sub hl [0, 1, 2, 3, 4] rfl) h
set_option maxHeartbeats 1000000 in
set_option maxRecDepth 100000 in
theorem c_X3_withEdge (l : Launch) (g : xG) (sz : Nat) (a_th : Nat) (a_tw : Nat) (a_tr : Nat) (a_ke : Nat) (a_pr : Nat) (a_lo : Nat) (a_hi : Nat) (a_st : Nat) (p_packed : Int32) (p_graph : Int32) (p_p : Int32) (sl : Int32) (f_tw : Nat → Int32) (f_tr : Nat → Int32) (kn : Nat) (f_ke : Nat → Int32) (f_lo : Nat → Int32) (f_hi : Nat → Int32) (f_st : Nat → Int32) (post : Int32 → Prop) (h : wp_X3_withEdge p_packed p_graph p_p f_tw f_tr f_lo f_hi f_st post) : xM l yX3_withEdge wsX3_withEdge ({ frames := 2, cells := 0, slots := 0, locals := 42 } : Room) g sz [(a_th, .inr (3, [.ref a_pr, .ref a_tw, .ref a_tr, .ref a_ke, .int sl])), (a_tw, .inl (xcI g, 60, .inl f_tw)), (a_tr, .inl (xcI g, 180, .inl f_tr)), (a_ke, .inl (xcI g, kn, .inl f_ke)), (a_pr, .inr (1, [.ref a_lo, .ref a_hi, .ref a_st])), (a_lo, .inl (xcI g, 15, .inl f_lo)), (a_hi, .inl (xcI g, 15, .inl f_hi)), (a_st, .inl (xcI g, 6, .inl f_st))] [.ref a_th, .int p_packed, .int p_graph, .int p_p] (q_X3_withEdge g a_th a_tw a_tr a_ke a_pr a_lo a_hi a_st sl f_tw f_tr kn f_ke f_lo f_hi f_st post) 0 0 := by
  refine xmet (cc := cX3_withEdge) (maxL := 11) (ret := (some .int)) (by decide) rfl (Nat.le_of_ble_eq_true rfl) ?_
  intro p e s m args below meth c A ls H locs C0 hP hD hS hl
  obtain ⟨hx, hb, hr, hml, hown, hin, hts, hlocks, hA, hK, hZ⟩ := id C0
  have hown : s.vm.findClass RX3 = some m.cls := hown
  have hl : lv_has ls 11 [(0, .ref a_th), (1, .int p_packed), (2, .int p_graph), (3, .int p_p)] := hl
  unfold wp_X3_withEdge at h
  refine lv_aload_n hx hb dX3_withEdge_0 rfl (lv_at hl 0 rfl) ?_
  refine va_get (D := g.1) (ci := 3) (v := .ref a_pr) (C := RX3) (T := TX3) (N := 5) hx hb hts in_X3_withEdge_X3 hown hK hP 0 rfl rfl 0 (by decide) (hts (.fieldLink RX3 9 "RandomModels$Things" "pairs" "LRandomModels$Pairs;") (by decide +kernel)) (fun _ h9 => h9) rfl dX3_withEdge_1 ?_
  refine lv_iload_n hx hb dX3_withEdge_4 rfl (lv_at hl 2 rfl) ?_
  refine lv_aload_n hx hb dX3_withEdge_5 rfl (lv_at hl 0 rfl) ?_
  refine va_get (D := g.1) (ci := 3) (v := .ref a_pr) (C := RX3) (T := TX3) (N := 5) hx hb hts in_X3_withEdge_X3 hown hK hP 0 rfl rfl 0 (by decide) (hts (.fieldLink RX3 9 "RandomModels$Things" "pairs" "LRandomModels$Pairs;") (by decide +kernel)) (fun _ h9 => h9) rfl dX3_withEdge_6 ?_
  refine lv_iload_n hx hb dX3_withEdge_9 rfl (lv_at hl 3 rfl) ?_
  refine xi (wr := [(a_th, .inr (3, [.ref a_pr, .ref a_tw, .ref a_tr, .ref a_ke, .int sl])), (a_tw, .inl (xcI g, 60, .inl f_tw)), (a_tr, .inl (xcI g, 180, .inl f_tr)), (a_ke, .inl (xcI g, kn, .inl f_ke))]) (xrV (As := [.int p_p]) (rest := [.int p_graph, .ref a_pr]) C0 hl.1 (c_X1_low l g _ a_pr a_lo a_hi a_st p_p f_lo f_hi f_st _ h) (cwV 1 hts gX3_withEdge_X1_low rfl rfl rfl (by decide +kernel) ⟨Nat.le_of_ble_eq_true rfl, Nat.le_of_ble_eq_true rfl⟩) 0 1 rfl rfl rfl rfl rfl (Nat.le_of_ble_eq_true rfl) dX3_withEdge_10 ⟨Nat.le_of_ble_eq_true rfl, Nat.le_of_ble_eq_true rfl⟩) C0 hP hD hS [4, 5, 6, 7] [0, 1, 2, 3] (by decide) rfl rfl rfl (by decide) (by decide) (fun r1 u H locs h hP hD hS => ?_)
  have hP : va_P g.1 vwCl [(a_th, .inr (3, [.ref a_pr, .ref a_tw, .ref a_tr, .ref a_ke, .int sl])), (a_tw, .inl (xcI g, 60, .inl f_tw)), (a_tr, .inl (xcI g, 180, .inl f_tr)), (a_ke, .inl (xcI g, kn, .inl f_ke)), (a_pr, .inr (1, [.ref a_lo, .ref a_hi, .ref a_st])), (a_lo, .inl (xcI g, 15, .inl f_lo)), (a_hi, .inl (xcI g, 15, .inl f_hi)), (a_st, .inl (xcI g, 6, .inl f_st))] H := hP
  have hD : va_D A [(a_th, .inr (3, [.ref a_pr, .ref a_tw, .ref a_tr, .ref a_ke, .int sl])), (a_tw, .inl (xcI g, 60, .inl f_tw)), (a_tr, .inl (xcI g, 180, .inl f_tr)), (a_ke, .inl (xcI g, kn, .inl f_ke)), (a_pr, .inr (1, [.ref a_lo, .ref a_hi, .ref a_st])), (a_lo, .inl (xcI g, 15, .inl f_lo)), (a_hi, .inl (xcI g, 15, .inl f_hi)), (a_st, .inl (xcI g, 6, .inl f_st))] := hD
  refine xi (wr := [(a_th, .inr (3, [.ref a_pr, .ref a_tw, .ref a_tr, .ref a_ke, .int sl])), (a_tw, .inl (xcI g, 60, .inl f_tw)), (a_tr, .inl (xcI g, 180, .inl f_tr)), (a_ke, .inl (xcI g, kn, .inl f_ke))]) (xrV (As := [.int p_graph, .int r1]) (rest := []) C0 hl.1 (c_X1_degree l g _ a_pr a_lo a_hi a_st p_graph r1 f_lo f_hi f_st _ h) (cwV 2 hts gX3_withEdge_X1_degree rfl rfl rfl (by decide +kernel) ⟨Nat.le_of_ble_eq_true rfl, Nat.le_of_ble_eq_true rfl⟩) 0 1 rfl rfl rfl rfl rfl (Nat.le_of_ble_eq_true rfl) dX3_withEdge_13 ⟨Nat.le_of_ble_eq_true rfl, Nat.le_of_ble_eq_true rfl⟩) C0 hP hD hS [4, 5, 6, 7] [0, 1, 2, 3] (by decide) rfl rfl rfl (by decide) (by decide) (fun r2 u H locs h hP hD hS => ?_)
  have hP : va_P g.1 vwCl [(a_th, .inr (3, [.ref a_pr, .ref a_tw, .ref a_tr, .ref a_ke, .int sl])), (a_tw, .inl (xcI g, 60, .inl f_tw)), (a_tr, .inl (xcI g, 180, .inl f_tr)), (a_ke, .inl (xcI g, kn, .inl f_ke)), (a_pr, .inr (1, [.ref a_lo, .ref a_hi, .ref a_st])), (a_lo, .inl (xcI g, 15, .inl f_lo)), (a_hi, .inl (xcI g, 15, .inl f_hi)), (a_st, .inl (xcI g, 6, .inl f_st))] H := hP
  have hD : va_D A [(a_th, .inr (3, [.ref a_pr, .ref a_tw, .ref a_tr, .ref a_ke, .int sl])), (a_tw, .inl (xcI g, 60, .inl f_tw)), (a_tr, .inl (xcI g, 180, .inl f_tr)), (a_ke, .inl (xcI g, kn, .inl f_ke)), (a_pr, .inr (1, [.ref a_lo, .ref a_hi, .ref a_st])), (a_lo, .inl (xcI g, 15, .inl f_lo)), (a_hi, .inl (xcI g, 15, .inl f_hi)), (a_st, .inl (xcI g, 6, .inl f_st))] := hD
  refine lv_istore (lv' := [(4, .int r2), (0, .ref a_th), (1, .int p_packed), (2, .int p_graph), (3, .int p_p)]) hx hb dX3_withEdge_16 hl (by decide) rfl (fun ls hl => ?_)
  refine lv_aload_n hx hb dX3_withEdge_18 rfl (lv_at hl 1 rfl) ?_
  refine va_get (D := g.1) (ci := 3) (v := .ref a_pr) (C := RX3) (T := TX3) (N := 5) hx hb hts in_X3_withEdge_X3 hown hK hP 0 rfl rfl 0 (by decide) (hts (.fieldLink RX3 9 "RandomModels$Things" "pairs" "LRandomModels$Pairs;") (by decide +kernel)) (fun _ h9 => h9) rfl dX3_withEdge_19 ?_
  refine lv_iload_n hx hb dX3_withEdge_22 rfl (lv_at hl 3 rfl) ?_
  refine lv_aload_n hx hb dX3_withEdge_23 rfl (lv_at hl 1 rfl) ?_
  refine va_get (D := g.1) (ci := 3) (v := .ref a_pr) (C := RX3) (T := TX3) (N := 5) hx hb hts in_X3_withEdge_X3 hown hK hP 0 rfl rfl 0 (by decide) (hts (.fieldLink RX3 9 "RandomModels$Things" "pairs" "LRandomModels$Pairs;") (by decide +kernel)) (fun _ h9 => h9) rfl dX3_withEdge_24 ?_
  refine lv_iload_n hx hb dX3_withEdge_27 rfl (lv_at hl 4 rfl) ?_
  refine xi (wr := [(a_th, .inr (3, [.ref a_pr, .ref a_tw, .ref a_tr, .ref a_ke, .int sl])), (a_tw, .inl (xcI g, 60, .inl f_tw)), (a_tr, .inl (xcI g, 180, .inl f_tr)), (a_ke, .inl (xcI g, kn, .inl f_ke))]) (xrV (As := [.int p_p]) (rest := [.int p_graph, .ref a_pr]) C0 hl.1 (c_X1_high l g _ a_pr a_lo a_hi a_st p_p f_lo f_hi f_st _ h) (cwV 1 hts gX3_withEdge_X1_high rfl rfl rfl (by decide +kernel) ⟨Nat.le_of_ble_eq_true rfl, Nat.le_of_ble_eq_true rfl⟩) 0 1 rfl rfl rfl rfl rfl (Nat.le_of_ble_eq_true rfl) dX3_withEdge_28 ⟨Nat.le_of_ble_eq_true rfl, Nat.le_of_ble_eq_true rfl⟩) C0 hP hD hS [4, 5, 6, 7] [0, 1, 2, 3] (by decide) rfl rfl rfl (by decide) (by decide) (fun r3 u H locs h hP hD hS => ?_)
  have hP : va_P g.1 vwCl [(a_th, .inr (3, [.ref a_pr, .ref a_tw, .ref a_tr, .ref a_ke, .int sl])), (a_tw, .inl (xcI g, 60, .inl f_tw)), (a_tr, .inl (xcI g, 180, .inl f_tr)), (a_ke, .inl (xcI g, kn, .inl f_ke)), (a_pr, .inr (1, [.ref a_lo, .ref a_hi, .ref a_st])), (a_lo, .inl (xcI g, 15, .inl f_lo)), (a_hi, .inl (xcI g, 15, .inl f_hi)), (a_st, .inl (xcI g, 6, .inl f_st))] H := hP
  have hD : va_D A [(a_th, .inr (3, [.ref a_pr, .ref a_tw, .ref a_tr, .ref a_ke, .int sl])), (a_tw, .inl (xcI g, 60, .inl f_tw)), (a_tr, .inl (xcI g, 180, .inl f_tr)), (a_ke, .inl (xcI g, kn, .inl f_ke)), (a_pr, .inr (1, [.ref a_lo, .ref a_hi, .ref a_st])), (a_lo, .inl (xcI g, 15, .inl f_lo)), (a_hi, .inl (xcI g, 15, .inl f_hi)), (a_st, .inl (xcI g, 6, .inl f_st))] := hD
  refine xi (wr := [(a_th, .inr (3, [.ref a_pr, .ref a_tw, .ref a_tr, .ref a_ke, .int sl])), (a_tw, .inl (xcI g, 60, .inl f_tw)), (a_tr, .inl (xcI g, 180, .inl f_tr)), (a_ke, .inl (xcI g, kn, .inl f_ke))]) (xrV (As := [.int p_graph, .int r3]) (rest := []) C0 hl.1 (c_X1_degree l g _ a_pr a_lo a_hi a_st p_graph r3 f_lo f_hi f_st _ h) (cwV 2 hts gX3_withEdge_X1_degree rfl rfl rfl (by decide +kernel) ⟨Nat.le_of_ble_eq_true rfl, Nat.le_of_ble_eq_true rfl⟩) 0 1 rfl rfl rfl rfl rfl (Nat.le_of_ble_eq_true rfl) dX3_withEdge_31 ⟨Nat.le_of_ble_eq_true rfl, Nat.le_of_ble_eq_true rfl⟩) C0 hP hD hS [4, 5, 6, 7] [0, 1, 2, 3] (by decide) rfl rfl rfl (by decide) (by decide) (fun r4 u H locs h hP hD hS => ?_)
  have hP : va_P g.1 vwCl [(a_th, .inr (3, [.ref a_pr, .ref a_tw, .ref a_tr, .ref a_ke, .int sl])), (a_tw, .inl (xcI g, 60, .inl f_tw)), (a_tr, .inl (xcI g, 180, .inl f_tr)), (a_ke, .inl (xcI g, kn, .inl f_ke)), (a_pr, .inr (1, [.ref a_lo, .ref a_hi, .ref a_st])), (a_lo, .inl (xcI g, 15, .inl f_lo)), (a_hi, .inl (xcI g, 15, .inl f_hi)), (a_st, .inl (xcI g, 6, .inl f_st))] H := hP
  have hD : va_D A [(a_th, .inr (3, [.ref a_pr, .ref a_tw, .ref a_tr, .ref a_ke, .int sl])), (a_tw, .inl (xcI g, 60, .inl f_tw)), (a_tr, .inl (xcI g, 180, .inl f_tr)), (a_ke, .inl (xcI g, kn, .inl f_ke)), (a_pr, .inr (1, [.ref a_lo, .ref a_hi, .ref a_st])), (a_lo, .inl (xcI g, 15, .inl f_lo)), (a_hi, .inl (xcI g, 15, .inl f_hi)), (a_st, .inl (xcI g, 6, .inl f_st))] := hD
  refine lv_istore (lv' := [(5, .int r4), (4, .int r2), (0, .ref a_th), (1, .int p_packed), (2, .int p_graph), (3, .int p_p)]) hx hb dX3_withEdge_34 hl (by decide) rfl (fun ls hl => ?_)
  refine lv_iload_n hx hb dX3_withEdge_36 rfl (lv_at hl 4 rfl) ?_
  refine lv_aload_n hx hb dX3_withEdge_37 rfl (lv_at hl 2 rfl) ?_
  refine va_get (D := g.1) (ci := 3) (v := .ref a_tw) (C := RX3) (T := TX3) (N := 5) hx hb hts in_X3_withEdge_X3 hown hK hP 0 rfl rfl 1 (by decide) (hts (.fieldLink RX3 15 "RandomModels$Things" "twoSteps" "[I") (by decide +kernel)) (fun _ h9 => h9) rfl dX3_withEdge_38 ?_
  refine lv_iload_n hx hb dX3_withEdge_41 rfl (lv_at hl 5 rfl) ?_
  refine lv_iconst (v := 4) hx hb dX3_withEdge_42 (by decide) ?_
  refine lv_imul hx hb dX3_withEdge_43 ?_
  refine lv_iconst (v := 4) hx hb dX3_withEdge_44 (by decide) ?_
  refine xi (wr := [(a_th, .inr (3, [.ref a_pr, .ref a_tw, .ref a_tr, .ref a_ke, .int sl])), (a_tr, .inl (xcI g, 180, .inl f_tr)), (a_ke, .inl (xcI g, kn, .inl f_ke)), (a_pr, .inr (1, [.ref a_lo, .ref a_hi, .ref a_st])), (a_lo, .inl (xcI g, 15, .inl f_lo)), (a_hi, .inl (xcI g, 15, .inl f_hi)), (a_st, .inl (xcI g, 6, .inl f_st))]) (xrS (As := [.int p_graph, .ref a_tw, .int (p_p * (4 : Int32)), .int (4 : Int32)]) (rest := []) C0 hl.1 (c_X3_countWhole l g _ a_tw p_graph (p_p * (4 : Int32)) (4 : Int32) 60 f_tw _ h) (va_cwS 4 hts gX3_withEdge_X3_countWhole rfl rfl rfl (by decide +kernel) ⟨Nat.le_of_ble_eq_true rfl, Nat.le_of_ble_eq_true rfl⟩) rfl rfl (Nat.le_of_ble_eq_true rfl) dX3_withEdge_45 ⟨Nat.le_of_ble_eq_true rfl, Nat.le_of_ble_eq_true rfl⟩) C0 hP hD hS [1] [0, 2, 3, 4, 5, 6, 7] (by decide) rfl rfl rfl (by decide) (by decide) (fun r5 u H locs h hP hD hS => ?_)
  have hP : va_P g.1 vwCl [(a_th, .inr (3, [.ref a_pr, .ref a_tw, .ref a_tr, .ref a_ke, .int sl])), (a_tr, .inl (xcI g, 180, .inl f_tr)), (a_ke, .inl (xcI g, kn, .inl f_ke)), (a_pr, .inr (1, [.ref a_lo, .ref a_hi, .ref a_st])), (a_lo, .inl (xcI g, 15, .inl f_lo)), (a_hi, .inl (xcI g, 15, .inl f_hi)), (a_st, .inl (xcI g, 6, .inl f_st)), (a_tw, .inl (xcI g, 60, .inl f_tw))] H := hP
  have hD : va_D A [(a_th, .inr (3, [.ref a_pr, .ref a_tw, .ref a_tr, .ref a_ke, .int sl])), (a_tr, .inl (xcI g, 180, .inl f_tr)), (a_ke, .inl (xcI g, kn, .inl f_ke)), (a_pr, .inr (1, [.ref a_lo, .ref a_hi, .ref a_st])), (a_lo, .inl (xcI g, 15, .inl f_lo)), (a_hi, .inl (xcI g, 15, .inl f_hi)), (a_st, .inl (xcI g, 6, .inl f_st)), (a_tw, .inl (xcI g, 60, .inl f_tw))] := hD
  refine lv_istore (lv' := [(6, .int r5), (5, .int r4), (4, .int r2), (0, .ref a_th), (1, .int p_packed), (2, .int p_graph), (3, .int p_p)]) hx hb dX3_withEdge_48 hl (by decide) rfl (fun ls hl => ?_)
  refine lv_iload_n hx hb dX3_withEdge_50 rfl (lv_at hl 5 rfl) ?_
  refine lv_aload_n hx hb dX3_withEdge_51 rfl (lv_at hl 3 rfl) ?_
  refine va_get (D := g.1) (ci := 3) (v := .ref a_tr) (C := RX3) (T := TX3) (N := 5) hx hb hts in_X3_withEdge_X3 hown hK hP 0 rfl rfl 2 (by decide) (hts (.fieldLink RX3 19 "RandomModels$Things" "threeSteps" "[I") (by decide +kernel)) (fun _ h9 => h9) rfl dX3_withEdge_52 ?_
  refine lv_iload_n hx hb dX3_withEdge_55 rfl (lv_at hl 6 rfl) ?_
  refine lv_bipush (v := 12) hx hb dX3_withEdge_56 (by decide) ?_
  refine lv_imul hx hb dX3_withEdge_58 ?_
  refine lv_bipush (v := 12) hx hb dX3_withEdge_59 (by decide) ?_
  refine xi (wr := [(a_th, .inr (3, [.ref a_pr, .ref a_tw, .ref a_tr, .ref a_ke, .int sl])), (a_ke, .inl (xcI g, kn, .inl f_ke)), (a_pr, .inr (1, [.ref a_lo, .ref a_hi, .ref a_st])), (a_lo, .inl (xcI g, 15, .inl f_lo)), (a_hi, .inl (xcI g, 15, .inl f_hi)), (a_st, .inl (xcI g, 6, .inl f_st)), (a_tw, .inl (xcI g, 60, .inl f_tw))]) (xrS (As := [.int p_graph, .ref a_tr, .int (p_p * (12 : Int32)), .int (12 : Int32)]) (rest := []) C0 hl.1 (c_X3_countWhole l g _ a_tr p_graph (p_p * (12 : Int32)) (12 : Int32) 180 f_tr _ h) (va_cwS 4 hts gX3_withEdge_X3_countWhole rfl rfl rfl (by decide +kernel) ⟨Nat.le_of_ble_eq_true rfl, Nat.le_of_ble_eq_true rfl⟩) rfl rfl (Nat.le_of_ble_eq_true rfl) dX3_withEdge_61 ⟨Nat.le_of_ble_eq_true rfl, Nat.le_of_ble_eq_true rfl⟩) C0 hP hD hS [1] [0, 2, 3, 4, 5, 6, 7] (by decide) rfl rfl rfl (by decide) (by decide) (fun r6 u H locs h hP hD hS => ?_)
  have hP : va_P g.1 vwCl [(a_th, .inr (3, [.ref a_pr, .ref a_tw, .ref a_tr, .ref a_ke, .int sl])), (a_ke, .inl (xcI g, kn, .inl f_ke)), (a_pr, .inr (1, [.ref a_lo, .ref a_hi, .ref a_st])), (a_lo, .inl (xcI g, 15, .inl f_lo)), (a_hi, .inl (xcI g, 15, .inl f_hi)), (a_st, .inl (xcI g, 6, .inl f_st)), (a_tw, .inl (xcI g, 60, .inl f_tw)), (a_tr, .inl (xcI g, 180, .inl f_tr))] H := hP
  have hD : va_D A [(a_th, .inr (3, [.ref a_pr, .ref a_tw, .ref a_tr, .ref a_ke, .int sl])), (a_ke, .inl (xcI g, kn, .inl f_ke)), (a_pr, .inr (1, [.ref a_lo, .ref a_hi, .ref a_st])), (a_lo, .inl (xcI g, 15, .inl f_lo)), (a_hi, .inl (xcI g, 15, .inl f_hi)), (a_st, .inl (xcI g, 6, .inl f_st)), (a_tw, .inl (xcI g, 60, .inl f_tw)), (a_tr, .inl (xcI g, 180, .inl f_tr))] := hD
  refine lv_istore (lv' := [(7, .int r6), (6, .int r5), (5, .int r4), (4, .int r2), (0, .ref a_th), (1, .int p_packed), (2, .int p_graph), (3, .int p_p)]) hx hb dX3_withEdge_64 hl (by decide) rfl (fun ls hl => ?_)
  refine lv_iload hx hb dX3_withEdge_66 (lv_at hl 1 rfl) ?_
  refine lv_if_ne (tgt := 107) hx hb dX3_withEdge_68 (by decide) (fun c7 => ?_) (fun c7 => ?_)
  · have h := h.2 c7
    exact w_X3_withEdge_107 C0 a_th a_tw a_tr a_ke a_pr a_lo a_hi a_st sl f_tw f_tr kn f_ke f_lo f_hi f_st post    p_packed r2 r4 r5 r6 (hP.sub [0, 6, 7, 1, 2, 3, 4, 5] rfl) (hD.sub [0, 6, 7, 1, 2, 3, 4, 5] (by decide) rfl) hS (lv_sub hl [5, 3, 2, 1, 0] rfl) h
  · have h := h.1 c7
    refine lv_iload hx hb dX3_withEdge_71 (lv_at hl 0 rfl) ?_
    refine lv_if_ne (tgt := 107) hx hb dX3_withEdge_73 (by decide) (fun c8 => ?_) (fun c8 => ?_)
    · have h := h.2 c8
      exact w_X3_withEdge_107 C0 a_th a_tw a_tr a_ke a_pr a_lo a_hi a_st sl f_tw f_tr kn f_ke f_lo f_hi f_st post    p_packed r2 r4 r5 r6 (hP.sub [0, 6, 7, 1, 2, 3, 4, 5] rfl) (hD.sub [0, 6, 7, 1, 2, 3, 4, 5] (by decide) rfl) hS (lv_sub hl [5, 3, 2, 1, 0] rfl) h
    · have h := h.1 c8
      refine lv_aload_n hx hb dX3_withEdge_76 rfl (lv_at hl 4 rfl) ?_
      refine va_get (D := g.1) (ci := 3) (v := .ref a_pr) (C := RX3) (T := TX3) (N := 5) hx hb hts in_X3_withEdge_X3 hown hK hP 0 rfl rfl 0 (by decide) (hts (.fieldLink RX3 9 "RandomModels$Things" "pairs" "LRandomModels$Pairs;") (by decide +kernel)) (fun _ h9 => h9) rfl dX3_withEdge_77 ?_
      refine lv_iload_n hx hb dX3_withEdge_80 rfl (lv_at hl 6 rfl) ?_
      refine lv_aload_n hx hb dX3_withEdge_81 rfl (lv_at hl 4 rfl) ?_
      refine va_get (D := g.1) (ci := 3) (v := .ref a_pr) (C := RX3) (T := TX3) (N := 5) hx hb hts in_X3_withEdge_X3 hown hK hP 0 rfl rfl 0 (by decide) (hts (.fieldLink RX3 9 "RandomModels$Things" "pairs" "LRandomModels$Pairs;") (by decide +kernel)) (fun _ h9 => h9) rfl dX3_withEdge_82 ?_
      refine lv_iload_n hx hb dX3_withEdge_85 rfl (lv_at hl 7 rfl) ?_
      refine xi (wr := [(a_th, .inr (3, [.ref a_pr, .ref a_tw, .ref a_tr, .ref a_ke, .int sl])), (a_ke, .inl (xcI g, kn, .inl f_ke)), (a_tw, .inl (xcI g, 60, .inl f_tw)), (a_tr, .inl (xcI g, 180, .inl f_tr))]) (xrV (As := [.int p_p]) (rest := [.int p_graph, .ref a_pr]) C0 hl.1 (c_X1_low l g _ a_pr a_lo a_hi a_st p_p f_lo f_hi f_st _ h) (cwV 1 hts gX3_withEdge_X1_low rfl rfl rfl (by decide +kernel) ⟨Nat.le_of_ble_eq_true rfl, Nat.le_of_ble_eq_true rfl⟩) 0 1 rfl rfl rfl rfl rfl (Nat.le_of_ble_eq_true rfl) dX3_withEdge_86 ⟨Nat.le_of_ble_eq_true rfl, Nat.le_of_ble_eq_true rfl⟩) C0 hP hD hS [2, 3, 4, 5] [0, 1, 6, 7] (by decide) rfl rfl rfl (by decide) (by decide) (fun r9 u H locs h hP hD hS => ?_)
      have hP : va_P g.1 vwCl [(a_th, .inr (3, [.ref a_pr, .ref a_tw, .ref a_tr, .ref a_ke, .int sl])), (a_ke, .inl (xcI g, kn, .inl f_ke)), (a_tw, .inl (xcI g, 60, .inl f_tw)), (a_tr, .inl (xcI g, 180, .inl f_tr)), (a_pr, .inr (1, [.ref a_lo, .ref a_hi, .ref a_st])), (a_lo, .inl (xcI g, 15, .inl f_lo)), (a_hi, .inl (xcI g, 15, .inl f_hi)), (a_st, .inl (xcI g, 6, .inl f_st))] H := hP
      have hD : va_D A [(a_th, .inr (3, [.ref a_pr, .ref a_tw, .ref a_tr, .ref a_ke, .int sl])), (a_ke, .inl (xcI g, kn, .inl f_ke)), (a_tw, .inl (xcI g, 60, .inl f_tw)), (a_tr, .inl (xcI g, 180, .inl f_tr)), (a_pr, .inr (1, [.ref a_lo, .ref a_hi, .ref a_st])), (a_lo, .inl (xcI g, 15, .inl f_lo)), (a_hi, .inl (xcI g, 15, .inl f_hi)), (a_st, .inl (xcI g, 6, .inl f_st))] := hD
      refine lv_aload_n hx hb dX3_withEdge_89 rfl (lv_at hl 4 rfl) ?_
      refine va_get (D := g.1) (ci := 3) (v := .ref a_pr) (C := RX3) (T := TX3) (N := 5) hx hb hts in_X3_withEdge_X3 hown hK hP 0 rfl rfl 0 (by decide) (hts (.fieldLink RX3 9 "RandomModels$Things" "pairs" "LRandomModels$Pairs;") (by decide +kernel)) (fun _ h9 => h9) rfl dX3_withEdge_90 ?_
      refine lv_iload_n hx hb dX3_withEdge_93 rfl (lv_at hl 7 rfl) ?_
      refine xi (wr := [(a_th, .inr (3, [.ref a_pr, .ref a_tw, .ref a_tr, .ref a_ke, .int sl])), (a_ke, .inl (xcI g, kn, .inl f_ke)), (a_tw, .inl (xcI g, 60, .inl f_tw)), (a_tr, .inl (xcI g, 180, .inl f_tr))]) (xrV (As := [.int p_p]) (rest := [.int r9, .int p_graph, .ref a_pr]) C0 hl.1 (c_X1_high l g _ a_pr a_lo a_hi a_st p_p f_lo f_hi f_st _ h) (cwV 1 hts gX3_withEdge_X1_high rfl rfl rfl (by decide +kernel) ⟨Nat.le_of_ble_eq_true rfl, Nat.le_of_ble_eq_true rfl⟩) 0 1 rfl rfl rfl rfl rfl (Nat.le_of_ble_eq_true rfl) dX3_withEdge_94 ⟨Nat.le_of_ble_eq_true rfl, Nat.le_of_ble_eq_true rfl⟩) C0 hP hD hS [4, 5, 6, 7] [0, 1, 2, 3] (by decide) rfl rfl rfl (by decide) (by decide) (fun r10 u H locs h hP hD hS => ?_)
      have hP : va_P g.1 vwCl [(a_th, .inr (3, [.ref a_pr, .ref a_tw, .ref a_tr, .ref a_ke, .int sl])), (a_ke, .inl (xcI g, kn, .inl f_ke)), (a_tw, .inl (xcI g, 60, .inl f_tw)), (a_tr, .inl (xcI g, 180, .inl f_tr)), (a_pr, .inr (1, [.ref a_lo, .ref a_hi, .ref a_st])), (a_lo, .inl (xcI g, 15, .inl f_lo)), (a_hi, .inl (xcI g, 15, .inl f_hi)), (a_st, .inl (xcI g, 6, .inl f_st))] H := hP
      have hD : va_D A [(a_th, .inr (3, [.ref a_pr, .ref a_tw, .ref a_tr, .ref a_ke, .int sl])), (a_ke, .inl (xcI g, kn, .inl f_ke)), (a_tw, .inl (xcI g, 60, .inl f_tw)), (a_tr, .inl (xcI g, 180, .inl f_tr)), (a_pr, .inr (1, [.ref a_lo, .ref a_hi, .ref a_st])), (a_lo, .inl (xcI g, 15, .inl f_lo)), (a_hi, .inl (xcI g, 15, .inl f_hi)), (a_st, .inl (xcI g, 6, .inl f_st))] := hD
      refine xi (wr := [(a_th, .inr (3, [.ref a_pr, .ref a_tw, .ref a_tr, .ref a_ke, .int sl])), (a_ke, .inl (xcI g, kn, .inl f_ke)), (a_tw, .inl (xcI g, 60, .inl f_tw)), (a_tr, .inl (xcI g, 180, .inl f_tr))]) (xrV (As := [.int p_graph, .int r9, .int r10]) (rest := []) C0 hl.1 (c_X1_hangTogether l g _ a_pr a_lo a_hi a_st p_graph r9 r10 f_lo f_hi f_st _ h) (cwV 3 hts gX3_withEdge_X1_hangTogether rfl rfl rfl (by decide +kernel) ⟨Nat.le_of_ble_eq_true rfl, Nat.le_of_ble_eq_true rfl⟩) 0 1 rfl rfl rfl rfl rfl (Nat.le_of_ble_eq_true rfl) dX3_withEdge_97 ⟨Nat.le_of_ble_eq_true rfl, Nat.le_of_ble_eq_true rfl⟩) C0 hP hD hS [4, 5, 6, 7] [0, 1, 2, 3] (by decide) rfl rfl rfl (by decide) (by decide) (fun r11 u H locs h hP hD hS => ?_)
      have hP : va_P g.1 vwCl [(a_th, .inr (3, [.ref a_pr, .ref a_tw, .ref a_tr, .ref a_ke, .int sl])), (a_ke, .inl (xcI g, kn, .inl f_ke)), (a_tw, .inl (xcI g, 60, .inl f_tw)), (a_tr, .inl (xcI g, 180, .inl f_tr)), (a_pr, .inr (1, [.ref a_lo, .ref a_hi, .ref a_st])), (a_lo, .inl (xcI g, 15, .inl f_lo)), (a_hi, .inl (xcI g, 15, .inl f_hi)), (a_st, .inl (xcI g, 6, .inl f_st))] H := hP
      have hD : va_D A [(a_th, .inr (3, [.ref a_pr, .ref a_tw, .ref a_tr, .ref a_ke, .int sl])), (a_ke, .inl (xcI g, kn, .inl f_ke)), (a_tw, .inl (xcI g, 60, .inl f_tw)), (a_tr, .inl (xcI g, 180, .inl f_tr)), (a_pr, .inr (1, [.ref a_lo, .ref a_hi, .ref a_st])), (a_lo, .inl (xcI g, 15, .inl f_lo)), (a_hi, .inl (xcI g, 15, .inl f_hi)), (a_st, .inl (xcI g, 6, .inl f_st))] := hD
      refine lv_if_ne (tgt := 107) hx hb dX3_withEdge_100 (by decide) (fun c12 => ?_) (fun c12 => ?_)
      · have h := h.2 c12
        exact w_X3_withEdge_107 C0 a_th a_tw a_tr a_ke a_pr a_lo a_hi a_st sl f_tw f_tr kn f_ke f_lo f_hi f_st post    p_packed r2 r4 r5 r6 (hP.sub [0, 2, 3, 1, 4, 5, 6, 7] rfl) (hD.sub [0, 2, 3, 1, 4, 5, 6, 7] (by decide) rfl) hS (lv_sub hl [5, 3, 2, 1, 0] rfl) h
      · have h := h.1 c12
        refine lv_iconst (v := 1) hx hb dX3_withEdge_103 (by decide) ?_
        refine lv_goto (tgt := 108) hx hb dX3_withEdge_104 (by decide) ?_
        exact w_X3_withEdge_108 C0 a_th a_tw a_tr a_ke a_pr a_lo a_hi a_st sl f_tw f_tr kn f_ke f_lo f_hi f_st post    p_packed r2 r4 r5 r6 (1 : Int32) (hP.sub [0, 2, 3, 1, 4, 5, 6, 7] rfl) (hD.sub [0, 2, 3, 1, 4, 5, 6, 7] (by decide) rfl) hS (lv_sub hl [5, 3, 2, 1, 0] rfl) h

def b_X3_measure_46 (sl : Int32) (f_tw : Nat → Int32) (f_tr : Nat → Int32) (f_lo : Nat → Int32) (f_hi : Nat → Int32) (f_st : Nat → Int32) (post : Int32 → Prop) (k9 : (Int32) → (Int32) → (Int32) → (Int32) → (Int32) → (Int32) → Prop) (x1 : Int32) (x2 : Int32) (x3 : Int32) (x4 : Int32) (x5 : Int32) (x6 : Int32) : Prop := k9 x1 x2 x3 x4 x5 (x6 + 1)
def b_X3_measure_9 (sl : Int32) (f_tw : Nat → Int32) (f_tr : Nat → Int32) (f_lo : Nat → Int32) (f_hi : Nat → Int32) (f_st : Nat → Int32) (post : Int32 → Prop) : Nat → (Int32) → (Int32) → (Int32) → (Int32) → (Int32) → (Int32) → Prop
  | 0 => fun x1 x2 x3 x4 x5 x6 => False
  | n9 + 1 => fun x1 x2 x3 x4 x5 x6 => (((15 : Int32) ≤ x6 → wp_X3_read x1 x4 x2 x3 sl (fun r2 => post r2 )) ∧ (¬ (15 : Int32) ≤ x6 → ((((x2 >>> (x6 &&& 31)) &&& (1 : Int32)) = 0 → b_X3_measure_46 sl f_tw f_tr f_lo f_hi f_st post (b_X3_measure_9 sl f_tw f_tr f_lo f_hi f_st post  n9) x1 x2 x3 x4 x5 x6) ∧ (¬ ((x2 >>> (x6 &&& 31)) &&& (1 : Int32)) = 0 → wp_X3_withEdge x4 x5 x6 f_tw f_tr f_lo f_hi f_st (fun r4 => (∀ z5 : Int32, z5 = (x5 ||| ((1 : Int32) <<< (x6 &&& 31))) → b_X3_measure_46 sl f_tw f_tr f_lo f_hi f_st post (b_X3_measure_9 sl f_tw f_tr f_lo f_hi f_st post  n9) x1 x2 x3 r4 z5 x6))))))
def wp_X3_measure (p_what : Int32) (p_graph : Int32) (p_nodes : Int32) (sl : Int32) (f_tw : Nat → Int32) (f_tr : Nat → Int32) (f_lo : Nat → Int32) (f_hi : Nat → Int32) (f_st : Nat → Int32) (post : Int32 → Prop) : Prop := ∃ n : Nat, b_X3_measure_9 sl f_tw f_tr f_lo f_hi f_st post  n p_what p_graph p_nodes (0 : Int32) (0 : Int32) (0 : Int32)
abbrev q_X3_measure (g : xG) (a_th : Nat) (a_tw : Nat) (a_tr : Nat) (a_ke : Nat) (a_pr : Nat) (a_lo : Nat) (a_hi : Nat) (a_st : Nat) (sl : Int32) (f_tw : Nat → Int32) (f_tr : Nat → Int32) (kn : Nat) (f_ke : Nat → Int32) (f_lo : Nat → Int32) (f_hi : Nat → Int32) (f_st : Nat → Int32) (post : Int32 → Prop) : (Nat → Prop) → Array Value → State → Outcome → State → Prop := xQi g (fun (r : Int32) (u : Unit) => post r ) (fun (_ : Unit) => [(a_th, .inr (3, [.ref a_pr, .ref a_tw, .ref a_tr, .ref a_ke, .int sl])), (a_tw, .inl (xcI g, 60, .inl f_tw)), (a_tr, .inl (xcI g, 180, .inl f_tr)), (a_ke, .inl (xcI g, kn, .inl f_ke)), (a_pr, .inr (1, [.ref a_lo, .ref a_hi, .ref a_st])), (a_lo, .inl (xcI g, 15, .inl f_lo)), (a_hi, .inl (xcI g, 15, .inl f_hi)), (a_st, .inl (xcI g, 6, .inl f_st))])
set_option maxHeartbeats 1000000 in
set_option maxRecDepth 100000 in
theorem w_X3_measure_46 {p : Program} {l : Launch} {e : Env} {s : State} {m : MethodId} {args : Array Value} {below : List Frame} {meth : Method} {c : Code} {A : Nat → Prop} {g : xG} (C0 : vx g p s m args meth c cX3_measure (some .int) 7 yX3_measure wsX3_measure A) (a_th : Nat) (a_tw : Nat) (a_tr : Nat) (a_ke : Nat) (a_pr : Nat) (a_lo : Nat) (a_hi : Nat) (a_st : Nat) (sl : Int32) (f_tw : Nat → Int32) (f_tr : Nat → Int32) (kn : Nat) (f_ke : Nat → Int32) (f_lo : Nat → Int32) (f_hi : Nat → Int32) (f_st : Nat → Int32) (post : Int32 → Prop) (k9 : (Int32) → (Int32) → (Int32) → (Int32) → (Int32) → (Int32) → Prop) (hk9 : ∀ (x1 : Int32) (x2 : Int32) (x3 : Int32) (x4 : Int32) (x5 : Int32) (x6 : Int32) {H : Heap} {locs : List Loc} {ls : Array Slot}, va_P g.1 vwCl [(a_th, .inr (3, [.ref a_pr, .ref a_tw, .ref a_tr, .ref a_ke, .int sl])), (a_tw, .inl (xcI g, 60, .inl f_tw)), (a_tr, .inl (xcI g, 180, .inl f_tr)), (a_ke, .inl (xcI g, kn, .inl f_ke)), (a_pr, .inr (1, [.ref a_lo, .ref a_hi, .ref a_st])), (a_lo, .inl (xcI g, 15, .inl f_lo)), (a_hi, .inl (xcI g, 15, .inl f_hi)), (a_st, .inl (xcI g, 6, .inl f_st))] H → va_D A [(a_th, .inr (3, [.ref a_pr, .ref a_tw, .ref a_tr, .ref a_ke, .int sl])), (a_tw, .inl (xcI g, 60, .inl f_tw)), (a_tr, .inl (xcI g, 180, .inl f_tr)), (a_ke, .inl (xcI g, kn, .inl f_ke)), (a_pr, .inr (1, [.ref a_lo, .ref a_hi, .ref a_st])), (a_lo, .inl (xcI g, 15, .inl f_lo)), (a_hi, .inl (xcI g, 15, .inl f_hi)), (a_st, .inl (xcI g, 6, .inl f_st))] → va_S A s.heap H locs → lv_has ls 7 [(0, .ref a_th), (1, .int x1), (2, .int x2), (3, .int x3), (4, .int x4), (5, .int x5), (6, .int x6)] → k9 x1 x2 x3 x4 x5 x6 → W p l e ({ frames := 3, cells := 0, slots := 0, locals := 72 } : Room) s m args below meth c H locs 0 0 (MQ below ((q_X3_measure g a_th a_tw a_tr a_ke a_pr a_lo a_hi a_st sl f_tw f_tr kn f_ke f_lo f_hi f_st post) A) args s 0 0 A) (F0 m 9 ls [])) (x1 : Int32) (x2 : Int32) (x3 : Int32) (x4 : Int32) (x5 : Int32) (x6 : Int32) {H : Heap} {locs : List Loc} {ls : Array Slot} (hP : va_P g.1 vwCl [(a_th, .inr (3, [.ref a_pr, .ref a_tw, .ref a_tr, .ref a_ke, .int sl])), (a_tw, .inl (xcI g, 60, .inl f_tw)), (a_tr, .inl (xcI g, 180, .inl f_tr)), (a_ke, .inl (xcI g, kn, .inl f_ke)), (a_pr, .inr (1, [.ref a_lo, .ref a_hi, .ref a_st])), (a_lo, .inl (xcI g, 15, .inl f_lo)), (a_hi, .inl (xcI g, 15, .inl f_hi)), (a_st, .inl (xcI g, 6, .inl f_st))] H) (hD : va_D A [(a_th, .inr (3, [.ref a_pr, .ref a_tw, .ref a_tr, .ref a_ke, .int sl])), (a_tw, .inl (xcI g, 60, .inl f_tw)), (a_tr, .inl (xcI g, 180, .inl f_tr)), (a_ke, .inl (xcI g, kn, .inl f_ke)), (a_pr, .inr (1, [.ref a_lo, .ref a_hi, .ref a_st])), (a_lo, .inl (xcI g, 15, .inl f_lo)), (a_hi, .inl (xcI g, 15, .inl f_hi)), (a_st, .inl (xcI g, 6, .inl f_st))]) (hS : va_S A s.heap H locs) (hl : lv_has ls 7 [(0, .ref a_th), (1, .int x1), (2, .int x2), (3, .int x3), (4, .int x4), (5, .int x5), (6, .int x6)]) (h : b_X3_measure_46 sl f_tw f_tr f_lo f_hi f_st post k9 x1 x2 x3 x4 x5 x6) : W p l e ({ frames := 3, cells := 0, slots := 0, locals := 72 } : Room) s m args below meth c H locs 0 0 (MQ below ((q_X3_measure g a_th a_tw a_tr a_ke a_pr a_lo a_hi a_st sl f_tw f_tr kn f_ke f_lo f_hi f_st post) A) args s 0 0 A) (F0 m 46 ls []) := by
  obtain ⟨hx, hb, hr, hml, hown, hin, hts, hlocks, hA, hK, hZ⟩ := id C0
  have hown : s.vm.findClass RX3 = some m.cls := hown
  unfold b_X3_measure_46 at h
  refine lv_iinc (v := (x6 + 1)) (lv' := [(6, .int (x6 + 1)), (0, .ref a_th), (1, .int x1), (2, .int x2), (3, .int x3), (4, .int x4), (5, .int x5)]) hx hb dX3_measure_46 hl (k := 6) rfl rfl (by decide) rfl (fun ls hl => ?_)
  refine lv_goto (tgt := 9) hx hb dX3_measure_49 (by decide) ?_
  exact hk9  x1 x2 x3 x4 x5 (x6 + 1) hP hD hS (lv_sub hl [1, 2, 3, 4, 5, 6, 0] rfl) h
set_option maxHeartbeats 1000000 in
set_option maxRecDepth 100000 in
theorem w_X3_measure_9 {p : Program} {l : Launch} {e : Env} {s : State} {m : MethodId} {args : Array Value} {below : List Frame} {meth : Method} {c : Code} {A : Nat → Prop} {g : xG} (C0 : vx g p s m args meth c cX3_measure (some .int) 7 yX3_measure wsX3_measure A) (a_th : Nat) (a_tw : Nat) (a_tr : Nat) (a_ke : Nat) (a_pr : Nat) (a_lo : Nat) (a_hi : Nat) (a_st : Nat) (sl : Int32) (f_tw : Nat → Int32) (f_tr : Nat → Int32) (kn : Nat) (f_ke : Nat → Int32) (f_lo : Nat → Int32) (f_hi : Nat → Int32) (f_st : Nat → Int32) (post : Int32 → Prop) : ∀ (n : Nat) (x1 : Int32) (x2 : Int32) (x3 : Int32) (x4 : Int32) (x5 : Int32) (x6 : Int32) {H : Heap} {locs : List Loc} {ls : Array Slot}, va_P g.1 vwCl [(a_th, .inr (3, [.ref a_pr, .ref a_tw, .ref a_tr, .ref a_ke, .int sl])), (a_tw, .inl (xcI g, 60, .inl f_tw)), (a_tr, .inl (xcI g, 180, .inl f_tr)), (a_ke, .inl (xcI g, kn, .inl f_ke)), (a_pr, .inr (1, [.ref a_lo, .ref a_hi, .ref a_st])), (a_lo, .inl (xcI g, 15, .inl f_lo)), (a_hi, .inl (xcI g, 15, .inl f_hi)), (a_st, .inl (xcI g, 6, .inl f_st))] H → va_D A [(a_th, .inr (3, [.ref a_pr, .ref a_tw, .ref a_tr, .ref a_ke, .int sl])), (a_tw, .inl (xcI g, 60, .inl f_tw)), (a_tr, .inl (xcI g, 180, .inl f_tr)), (a_ke, .inl (xcI g, kn, .inl f_ke)), (a_pr, .inr (1, [.ref a_lo, .ref a_hi, .ref a_st])), (a_lo, .inl (xcI g, 15, .inl f_lo)), (a_hi, .inl (xcI g, 15, .inl f_hi)), (a_st, .inl (xcI g, 6, .inl f_st))] → va_S A s.heap H locs → lv_has ls 7 [(0, .ref a_th), (1, .int x1), (2, .int x2), (3, .int x3), (4, .int x4), (5, .int x5), (6, .int x6)] → b_X3_measure_9 sl f_tw f_tr f_lo f_hi f_st post  n x1 x2 x3 x4 x5 x6 → W p l e ({ frames := 3, cells := 0, slots := 0, locals := 72 } : Room) s m args below meth c H locs 0 0 (MQ below ((q_X3_measure g a_th a_tw a_tr a_ke a_pr a_lo a_hi a_st sl f_tw f_tr kn f_ke f_lo f_hi f_st post) A) args s 0 0 A) (F0 m 9 ls []) := by
  obtain ⟨hx, hb, hr, hml, hown, hin, hts, hlocks, hA, hK, hZ⟩ := id C0
  have hown : s.vm.findClass RX3 = some m.cls := hown
  intro n
  induction n with
  | zero =>
    intro  x1 x2 x3 x4 x5 x6 H locs ls hP hD hS hl h
    exact False.elim h
  | succ n9 hk9 =>
    intro  x1 x2 x3 x4 x5 x6 H locs ls hP hD hS hl h
    unfold b_X3_measure_9 at h
    refine lv_iload hx hb dX3_measure_9 (lv_at hl 6 rfl) ?_
    refine lv_bipush (v := 15) hx hb dX3_measure_11 (by decide) ?_
    refine lv_icmp_ge (tgt := 52) hx hb dX3_measure_13 (by decide) (fun c1 => ?_) (fun c1 => ?_)
    · have h := h.1 c1
      refine lv_aload_n hx hb dX3_measure_52 rfl (lv_at hl 0 rfl) ?_
      refine lv_iload_n hx hb dX3_measure_53 rfl (lv_at hl 1 rfl) ?_
      refine lv_iload hx hb dX3_measure_54 (lv_at hl 4 rfl) ?_
      refine lv_iload_n hx hb dX3_measure_56 rfl (lv_at hl 2 rfl) ?_
      refine lv_iload_n hx hb dX3_measure_57 rfl (lv_at hl 3 rfl) ?_
      refine xi (wr := []) (xrV (As := [.int x1, .int x4, .int x2, .int x3]) (rest := []) C0 hl.1 (c_X3_read l g _ a_th a_tw a_tr a_ke a_pr a_lo a_hi a_st x1 x4 x2 x3 sl f_tw f_tr kn f_ke f_lo f_hi f_st _ h) (cwV 4 hts gX3_measure_X3_read rfl rfl rfl (by decide +kernel) ⟨Nat.le_of_ble_eq_true rfl, Nat.le_of_ble_eq_true rfl⟩) 0 3 rfl rfl rfl rfl rfl (Nat.le_of_ble_eq_true rfl) dX3_measure_58 ⟨Nat.le_of_ble_eq_true rfl, Nat.le_of_ble_eq_true rfl⟩) C0 hP hD hS [0, 1, 2, 3, 4, 5, 6, 7] [] (by decide) rfl rfl rfl (by decide) (by decide) (fun r2 u H locs h hP hD hS => ?_)
      have hP : va_P g.1 vwCl [(a_th, .inr (3, [.ref a_pr, .ref a_tw, .ref a_tr, .ref a_ke, .int sl])), (a_tw, .inl (xcI g, 60, .inl f_tw)), (a_tr, .inl (xcI g, 180, .inl f_tr)), (a_ke, .inl (xcI g, kn, .inl f_ke)), (a_pr, .inr (1, [.ref a_lo, .ref a_hi, .ref a_st])), (a_lo, .inl (xcI g, 15, .inl f_lo)), (a_hi, .inl (xcI g, 15, .inl f_hi)), (a_st, .inl (xcI g, 6, .inl f_st))] H := hP
      have hD : va_D A [(a_th, .inr (3, [.ref a_pr, .ref a_tw, .ref a_tr, .ref a_ke, .int sl])), (a_tw, .inl (xcI g, 60, .inl f_tw)), (a_tr, .inl (xcI g, 180, .inl f_tr)), (a_ke, .inl (xcI g, kn, .inl f_ke)), (a_pr, .inr (1, [.ref a_lo, .ref a_hi, .ref a_st])), (a_lo, .inl (xcI g, 15, .inl f_lo)), (a_hi, .inl (xcI g, 15, .inl f_hi)), (a_st, .inl (xcI g, 6, .inl f_st))] := hD
      exact xreti () C0 hP hD hS h dX3_measure_61
    · have h := h.2 c1
      refine lv_iload_n hx hb dX3_measure_16 rfl (lv_at hl 2 rfl) ?_
      refine lv_iload hx hb dX3_measure_17 (lv_at hl 6 rfl) ?_
      refine lv_ishr hx hb dX3_measure_19 ?_
      refine lv_iconst (v := 1) hx hb dX3_measure_20 (by decide) ?_
      refine lv_iand hx hb dX3_measure_21 ?_
      refine lv_if_eq (tgt := 46) hx hb dX3_measure_22 (by decide) (fun c3 => ?_) (fun c3 => ?_)
      · have h := h.1 c3
        exact w_X3_measure_46 C0 a_th a_tw a_tr a_ke a_pr a_lo a_hi a_st sl f_tw f_tr kn f_ke f_lo f_hi f_st post (b_X3_measure_9 sl f_tw f_tr f_lo f_hi f_st post  n9) hk9  x1 x2 x3 x4 x5 x6 hP hD hS (lv_sub hl [0, 1, 2, 3, 4, 5, 6] rfl) h
      · have h := h.2 c3
        refine lv_aload_n hx hb dX3_measure_25 rfl (lv_at hl 0 rfl) ?_
        refine lv_iload hx hb dX3_measure_26 (lv_at hl 4 rfl) ?_
        refine lv_iload hx hb dX3_measure_28 (lv_at hl 5 rfl) ?_
        refine lv_iload hx hb dX3_measure_30 (lv_at hl 6 rfl) ?_
        refine xi (wr := []) (xrV (As := [.int x4, .int x5, .int x6]) (rest := []) C0 hl.1 (c_X3_withEdge l g _ a_th a_tw a_tr a_ke a_pr a_lo a_hi a_st x4 x5 x6 sl f_tw f_tr kn f_ke f_lo f_hi f_st _ h) (cwV 3 hts gX3_measure_X3_withEdge rfl rfl rfl (by decide +kernel) ⟨Nat.le_of_ble_eq_true rfl, Nat.le_of_ble_eq_true rfl⟩) 0 3 rfl rfl rfl rfl rfl (Nat.le_of_ble_eq_true rfl) dX3_measure_32 ⟨Nat.le_of_ble_eq_true rfl, Nat.le_of_ble_eq_true rfl⟩) C0 hP hD hS [0, 1, 2, 3, 4, 5, 6, 7] [] (by decide) rfl rfl rfl (by decide) (by decide) (fun r4 u H locs h hP hD hS => ?_)
        have hP : va_P g.1 vwCl [(a_th, .inr (3, [.ref a_pr, .ref a_tw, .ref a_tr, .ref a_ke, .int sl])), (a_tw, .inl (xcI g, 60, .inl f_tw)), (a_tr, .inl (xcI g, 180, .inl f_tr)), (a_ke, .inl (xcI g, kn, .inl f_ke)), (a_pr, .inr (1, [.ref a_lo, .ref a_hi, .ref a_st])), (a_lo, .inl (xcI g, 15, .inl f_lo)), (a_hi, .inl (xcI g, 15, .inl f_hi)), (a_st, .inl (xcI g, 6, .inl f_st))] H := hP
        have hD : va_D A [(a_th, .inr (3, [.ref a_pr, .ref a_tw, .ref a_tr, .ref a_ke, .int sl])), (a_tw, .inl (xcI g, 60, .inl f_tw)), (a_tr, .inl (xcI g, 180, .inl f_tr)), (a_ke, .inl (xcI g, kn, .inl f_ke)), (a_pr, .inr (1, [.ref a_lo, .ref a_hi, .ref a_st])), (a_lo, .inl (xcI g, 15, .inl f_lo)), (a_hi, .inl (xcI g, 15, .inl f_hi)), (a_st, .inl (xcI g, 6, .inl f_st))] := hD
        refine lv_istore (lv' := [(4, .int r4), (0, .ref a_th), (1, .int x1), (2, .int x2), (3, .int x3), (5, .int x5), (6, .int x6)]) hx hb dX3_measure_35 hl (by decide) rfl (fun ls hl => ?_)
        refine lv_iload hx hb dX3_measure_37 (lv_at hl 5 rfl) ?_
        refine lv_iconst (v := 1) hx hb dX3_measure_39 (by decide) ?_
        refine lv_iload hx hb dX3_measure_40 (lv_at hl 6 rfl) ?_
        refine lv_ishl hx hb dX3_measure_42 ?_
        refine lv_ior hx hb dX3_measure_43 ?_
        refine lv_topi (fun z5 ez5 => ?_)
        have h := h z5 ez5
        refine lv_istore (lv' := [(5, .int z5), (4, .int r4), (0, .ref a_th), (1, .int x1), (2, .int x2), (3, .int x3), (6, .int x6)]) hx hb dX3_measure_44 hl (by decide) rfl (fun ls hl => ?_)
        exact w_X3_measure_46 C0 a_th a_tw a_tr a_ke a_pr a_lo a_hi a_st sl f_tw f_tr kn f_ke f_lo f_hi f_st post (b_X3_measure_9 sl f_tw f_tr f_lo f_hi f_st post  n9) hk9  x1 x2 x3 r4 z5 x6 hP hD hS (lv_sub hl [2, 3, 4, 5, 1, 0, 6] rfl) h
set_option maxHeartbeats 1000000 in
set_option maxRecDepth 100000 in
theorem c_X3_measure (l : Launch) (g : xG) (sz : Nat) (a_th : Nat) (a_tw : Nat) (a_tr : Nat) (a_ke : Nat) (a_pr : Nat) (a_lo : Nat) (a_hi : Nat) (a_st : Nat) (p_what : Int32) (p_graph : Int32) (p_nodes : Int32) (sl : Int32) (f_tw : Nat → Int32) (f_tr : Nat → Int32) (kn : Nat) (f_ke : Nat → Int32) (f_lo : Nat → Int32) (f_hi : Nat → Int32) (f_st : Nat → Int32) (post : Int32 → Prop) (h : wp_X3_measure p_what p_graph p_nodes sl f_tw f_tr f_lo f_hi f_st post) : xM l yX3_measure wsX3_measure ({ frames := 3, cells := 0, slots := 0, locals := 72 } : Room) g sz [(a_th, .inr (3, [.ref a_pr, .ref a_tw, .ref a_tr, .ref a_ke, .int sl])), (a_tw, .inl (xcI g, 60, .inl f_tw)), (a_tr, .inl (xcI g, 180, .inl f_tr)), (a_ke, .inl (xcI g, kn, .inl f_ke)), (a_pr, .inr (1, [.ref a_lo, .ref a_hi, .ref a_st])), (a_lo, .inl (xcI g, 15, .inl f_lo)), (a_hi, .inl (xcI g, 15, .inl f_hi)), (a_st, .inl (xcI g, 6, .inl f_st))] [.ref a_th, .int p_what, .int p_graph, .int p_nodes] (q_X3_measure g a_th a_tw a_tr a_ke a_pr a_lo a_hi a_st sl f_tw f_tr kn f_ke f_lo f_hi f_st post) 0 0 := by
  refine xmet (cc := cX3_measure) (maxL := 7) (ret := (some .int)) (by decide) rfl (Nat.le_of_ble_eq_true rfl) ?_
  intro p e s m args below meth c A ls H locs C0 hP hD hS hl
  obtain ⟨hx, hb, hr, hml, hown, hin, hts, hlocks, hA, hK, hZ⟩ := id C0
  have hown : s.vm.findClass RX3 = some m.cls := hown
  have hl : lv_has ls 7 [(0, .ref a_th), (1, .int p_what), (2, .int p_graph), (3, .int p_nodes)] := hl
  unfold wp_X3_measure at h
  refine lv_iconst (v := 0) hx hb dX3_measure_0 (by decide) ?_
  refine lv_istore (lv' := [(4, .int (0 : Int32)), (0, .ref a_th), (1, .int p_what), (2, .int p_graph), (3, .int p_nodes)]) hx hb dX3_measure_1 hl (by decide) rfl (fun ls hl => ?_)
  refine lv_iconst (v := 0) hx hb dX3_measure_3 (by decide) ?_
  refine lv_istore (lv' := [(5, .int (0 : Int32)), (4, .int (0 : Int32)), (0, .ref a_th), (1, .int p_what), (2, .int p_graph), (3, .int p_nodes)]) hx hb dX3_measure_4 hl (by decide) rfl (fun ls hl => ?_)
  refine lv_iconst (v := 0) hx hb dX3_measure_6 (by decide) ?_
  refine lv_istore (lv' := [(6, .int (0 : Int32)), (5, .int (0 : Int32)), (4, .int (0 : Int32)), (0, .ref a_th), (1, .int p_what), (2, .int p_graph), (3, .int p_nodes)]) hx hb dX3_measure_7 hl (by decide) rfl (fun ls hl => ?_)
  obtain ⟨n, h⟩ := h
  exact w_X3_measure_9 C0 a_th a_tw a_tr a_ke a_pr a_lo a_hi a_st sl f_tw f_tr kn f_ke f_lo f_hi f_st post   n  p_what p_graph p_nodes (0 : Int32) (0 : Int32) (0 : Int32) hP hD hS (lv_sub hl [3, 4, 5, 6, 2, 1, 0] rfl) h

def wp_X3_makeRoom (p_what : Int32) (p_graphs : Int32) (kn : Nat) (f_ke : Nat → Int32) (mC : Nat) (mS : Nat) (post : (Nat) → (Nat → Int32) → Prop) : Prop := wp_X3_isQuick p_what (fun r1 => ((r1 = 0 → ((p_graphs ≤ (Int32.ofNat kn) → post kn f_ke) ∧ (¬ p_graphs ≤ (Int32.ofNat kn) → (((32768 : Int32) < p_graphs → post kn f_ke) ∧ (¬ (32768 : Int32) < p_graphs → ((¬ p_graphs < 0 ∧ p_graphs.toNatClampNeg ≤ 100000 ∧ 0 + 1 ≤ mC ∧ 0 + p_graphs.toNatClampNeg ≤ mS) ∧ ((¬ (0 : Int32) < 0 ∧ ¬ (0 : Int32) < 0 ∧ ¬ (Int32.ofNat kn) < 0 ∧ (0 : Int32).toNatClampNeg + (Int32.ofNat kn).toNatClampNeg ≤ kn ∧ (0 : Int32).toNatClampNeg + (Int32.ofNat kn).toNatClampNeg ≤ p_graphs.toNatClampNeg) ∧ post p_graphs.toNatClampNeg (va_cpy f_ke (fun _ => (0 : Int32)) (0 : Int32).toNatClampNeg (0 : Int32).toNatClampNeg (Int32.ofNat kn).toNatClampNeg)))))))) ∧ (¬ r1 = 0 → post kn f_ke)))
abbrev q_X3_makeRoom (g : xG) (a_th : Nat) (a_tw : Nat) (a_tr : Nat) (a_pr : Nat) (a_lo : Nat) (a_hi : Nat) (a_st : Nat) (sl : Int32) (f_tw : Nat → Int32) (f_tr : Nat → Int32) (f_lo : Nat → Int32) (f_hi : Nat → Int32) (f_st : Nat → Int32) (post : (Nat) → (Nat → Int32) → Prop) : (Nat → Prop) → Array Value → State → Outcome → State → Prop := xQv g (fun (u : (Nat) × (Nat) × (Nat → Int32)) => match u with | (a_ke, kn, f_ke) => post kn f_ke) (fun (u : (Nat) × (Nat) × (Nat → Int32)) => match u with | (a_ke, kn, f_ke) => [(a_th, .inr (3, [.ref a_pr, .ref a_tw, .ref a_tr, .ref a_ke, .int sl])), (a_tw, .inl (xcI g, 60, .inl f_tw)), (a_tr, .inl (xcI g, 180, .inl f_tr)), (a_ke, .inl (xcI g, kn, .inl f_ke)), (a_pr, .inr (1, [.ref a_lo, .ref a_hi, .ref a_st])), (a_lo, .inl (xcI g, 15, .inl f_lo)), (a_hi, .inl (xcI g, 15, .inl f_hi)), (a_st, .inl (xcI g, 6, .inl f_st))])
theorem in_X3_makeRoom_X3 : ∀ w ∈ u_ws RX3 TX3 5, w ∈ wsX3_makeRoom := by decide +kernel
set_option maxHeartbeats 1000000 in
set_option maxRecDepth 100000 in
theorem c_X3_makeRoom (l : Launch) (g : xG) (sz : Nat) (a_th : Nat) (a_tw : Nat) (a_tr : Nat) (a_ke : Nat) (a_pr : Nat) (a_lo : Nat) (a_hi : Nat) (a_st : Nat) (p_what : Int32) (p_graphs : Int32) (sl : Int32) (f_tw : Nat → Int32) (f_tr : Nat → Int32) (f_lo : Nat → Int32) (f_hi : Nat → Int32) (f_st : Nat → Int32) (kn : Nat) (f_ke : Nat → Int32) (mC : Nat) (mS : Nat) (post : (Nat) → (Nat → Int32) → Prop) (h : wp_X3_makeRoom p_what p_graphs kn f_ke mC mS post) : xM l yX3_makeRoom wsX3_makeRoom ({ frames := 1, cells := mC, slots := mS, locals := 40 } : Room) g sz [(a_th, .inr (3, [.ref a_pr, .ref a_tw, .ref a_tr, .ref a_ke, .int sl])), (a_tw, .inl (xcI g, 60, .inl f_tw)), (a_tr, .inl (xcI g, 180, .inl f_tr)), (a_ke, .inl (xcI g, kn, .inl f_ke)), (a_pr, .inr (1, [.ref a_lo, .ref a_hi, .ref a_st])), (a_lo, .inl (xcI g, 15, .inl f_lo)), (a_hi, .inl (xcI g, 15, .inl f_hi)), (a_st, .inl (xcI g, 6, .inl f_st))] [.ref a_th, .int p_what, .int p_graphs] (q_X3_makeRoom g a_th a_tw a_tr a_pr a_lo a_hi a_st sl f_tw f_tr f_lo f_hi f_st post) mC mS := by
  refine xmet (cc := cX3_makeRoom) (maxL := 4) (ret := none) (by decide) rfl (Nat.le_of_ble_eq_true rfl) ?_
  intro p e s m args below meth c A ls H locs C0 hP hD hS hl
  obtain ⟨hx, hb, hr, hml, hown, hin, hts, hlocks, hA, hK, hZ⟩ := id C0
  have hown : s.vm.findClass RX3 = some m.cls := hown
  have hl : lv_has ls 4 [(0, .ref a_th), (1, .int p_what), (2, .int p_graphs)] := hl
  unfold wp_X3_makeRoom at h
  refine lv_iload_n hx hb dX3_makeRoom_0 rfl (lv_at hl 1 rfl) ?_
  refine xi (wr := [(a_th, .inr (3, [.ref a_pr, .ref a_tw, .ref a_tr, .ref a_ke, .int sl])), (a_tw, .inl (xcI g, 60, .inl f_tw)), (a_tr, .inl (xcI g, 180, .inl f_tr)), (a_ke, .inl (xcI g, kn, .inl f_ke)), (a_pr, .inr (1, [.ref a_lo, .ref a_hi, .ref a_st])), (a_lo, .inl (xcI g, 15, .inl f_lo)), (a_hi, .inl (xcI g, 15, .inl f_hi)), (a_st, .inl (xcI g, 6, .inl f_st))]) (xrS (As := [.int p_what]) (rest := []) C0 hl.1 (c_X3_isQuick l g _  p_what _ h) (va_cwS 1 hts gX3_makeRoom_X3_isQuick rfl rfl rfl (by decide +kernel) ⟨Nat.le_of_ble_eq_true rfl, Nat.le_of_ble_eq_true rfl⟩) rfl rfl (Nat.le_of_ble_eq_true rfl) dX3_makeRoom_1 ⟨Nat.zero_le _, Nat.zero_le _⟩) C0 hP hD hS [] [0, 1, 2, 3, 4, 5, 6, 7] (by decide) rfl rfl rfl (by decide) (by decide) (fun r1 u H locs h hP hD hS => ?_)
  have hP : va_P g.1 vwCl [(a_th, .inr (3, [.ref a_pr, .ref a_tw, .ref a_tr, .ref a_ke, .int sl])), (a_tw, .inl (xcI g, 60, .inl f_tw)), (a_tr, .inl (xcI g, 180, .inl f_tr)), (a_ke, .inl (xcI g, kn, .inl f_ke)), (a_pr, .inr (1, [.ref a_lo, .ref a_hi, .ref a_st])), (a_lo, .inl (xcI g, 15, .inl f_lo)), (a_hi, .inl (xcI g, 15, .inl f_hi)), (a_st, .inl (xcI g, 6, .inl f_st))] H := hP
  have hD : va_D A [(a_th, .inr (3, [.ref a_pr, .ref a_tw, .ref a_tr, .ref a_ke, .int sl])), (a_tw, .inl (xcI g, 60, .inl f_tw)), (a_tr, .inl (xcI g, 180, .inl f_tr)), (a_ke, .inl (xcI g, kn, .inl f_ke)), (a_pr, .inr (1, [.ref a_lo, .ref a_hi, .ref a_st])), (a_lo, .inl (xcI g, 15, .inl f_lo)), (a_hi, .inl (xcI g, 15, .inl f_hi)), (a_st, .inl (xcI g, 6, .inl f_st))] := hD
  refine lv_if_ne (tgt := 46) hx hb dX3_makeRoom_4 (by decide) (fun c2 => ?_) (fun c2 => ?_)
  · have h := h.2 c2
    refine W.widen (k := mC) (n := mS) (by omega) (by omega) ?_
    exact xretv (a_ke, kn, f_ke) C0 hP hD hS h dX3_makeRoom_46
  · have h := h.1 c2
    refine lv_iload_n hx hb dX3_makeRoom_7 rfl (lv_at hl 2 rfl) ?_
    refine lv_aload_n hx hb dX3_makeRoom_8 rfl (lv_at hl 0 rfl) ?_
    refine va_get (D := g.1) (ci := 3) (v := .ref a_ke) (C := RX3) (T := TX3) (N := 5) hx hb hts in_X3_makeRoom_X3 hown hK hP 0 rfl rfl 3 (by decide) (hts (.fieldLink RX3 22 "RandomModels$Things" "kept" "[I") (by decide +kernel)) (fun _ h9 => h9) rfl dX3_makeRoom_9 ?_
    refine va_alen (v := Int32.ofNat kn) hx hb hK hP 3 0 rfl rfl rfl dX3_makeRoom_12 ?_
    refine lv_icmp_le (tgt := 46) hx hb dX3_makeRoom_13 (by decide) (fun c3 => ?_) (fun c3 => ?_)
    · have h := h.1 c3
      refine W.widen (k := mC) (n := mS) (by omega) (by omega) ?_
      exact xretv (a_ke, kn, f_ke) C0 hP hD hS h dX3_makeRoom_46
    · have h := h.2 c3
      refine lv_iload_n hx hb dX3_makeRoom_16 rfl (lv_at hl 2 rfl) ?_
      refine lv_ldc (v := 32768) hx hb hown (hts (.constant RX3 50 (32768)) (by decide +kernel)) dX3_makeRoom_17 ?_
      refine lv_icmp_gt (tgt := 46) hx hb dX3_makeRoom_19 (by decide) (fun c4 => ?_) (fun c4 => ?_)
      · have h := h.1 c4
        refine W.widen (k := mC) (n := mS) (by omega) (by omega) ?_
        exact xretv (a_ke, kn, f_ke) C0 hP hD hS h dX3_makeRoom_46
      · have h := h.2 c4
        refine lv_iload_n hx hb dX3_makeRoom_22 rfl (lv_at hl 2 rfl) ?_
        obtain ⟨c7, h⟩ := h
        refine va_newa (atype := .int) (ty := .int) (n := p_graphs) (N' := p_graphs.toNatClampNeg) (a0 := (p_graphs.toNatClampNeg, (.inl (fun _ => 0)))) hx hb (hts (.arrayClass .int) (by decide +kernel)) rfl hK hP hD hS hA (fun _ => rfl) c7.1 rfl (Nat.le_trans (Nat.mul_le_mul_right _ c7.2.1) (by decide)) c7.2.2.1 c7.2.2.2 dX3_makeRoom_23 (fun q5 cA H hKn hP hD hS => ?_)
        obtain rfl := xarr (k := 0) (fun _ q9 => by cases q9) hKn rfl
        have hP : va_P g.1 vwCl [(a_th, .inr (3, [.ref a_pr, .ref a_tw, .ref a_tr, .ref a_ke, .int sl])), (a_tw, .inl (xcI g, 60, .inl f_tw)), (a_tr, .inl (xcI g, 180, .inl f_tr)), (a_ke, .inl (xcI g, kn, .inl f_ke)), (a_pr, .inr (1, [.ref a_lo, .ref a_hi, .ref a_st])), (a_lo, .inl (xcI g, 15, .inl f_lo)), (a_hi, .inl (xcI g, 15, .inl f_hi)), (a_st, .inl (xcI g, 6, .inl f_st)), (q5, .inl (xcI g, p_graphs.toNatClampNeg, .inl (fun _ => (0 : Int32))))] H := hP
        have hD : va_D A [(a_th, .inr (3, [.ref a_pr, .ref a_tw, .ref a_tr, .ref a_ke, .int sl])), (a_tw, .inl (xcI g, 60, .inl f_tw)), (a_tr, .inl (xcI g, 180, .inl f_tr)), (a_ke, .inl (xcI g, kn, .inl f_ke)), (a_pr, .inr (1, [.ref a_lo, .ref a_hi, .ref a_st])), (a_lo, .inl (xcI g, 15, .inl f_lo)), (a_hi, .inl (xcI g, 15, .inl f_hi)), (a_st, .inl (xcI g, 6, .inl f_st)), (q5, .inl (xcI g, p_graphs.toNatClampNeg, .inl (fun _ => (0 : Int32))))] := hD
        refine lv_astore_n (lv' := [(3, .ref q5), (0, .ref a_th), (1, .int p_what), (2, .int p_graphs)]) hx hb dX3_makeRoom_25 rfl hl (by decide) rfl (fun ls hl => ?_)
        refine lv_aload_n hx hb dX3_makeRoom_26 rfl (lv_at hl 1 rfl) ?_
        refine va_get (D := g.1) (ci := 3) (v := .ref a_ke) (C := RX3) (T := TX3) (N := 5) hx hb hts in_X3_makeRoom_X3 hown hK hP 0 rfl rfl 3 (by decide) (hts (.fieldLink RX3 22 "RandomModels$Things" "kept" "[I") (by decide +kernel)) (fun _ h9 => h9) rfl dX3_makeRoom_27 ?_
        refine lv_iconst (v := 0) hx hb dX3_makeRoom_30 (by decide) ?_
        refine lv_aload_n hx hb dX3_makeRoom_31 rfl (lv_at hl 0 rfl) ?_
        refine lv_iconst (v := 0) hx hb dX3_makeRoom_32 (by decide) ?_
        refine lv_aload_n hx hb dX3_makeRoom_33 rfl (lv_at hl 1 rfl) ?_
        refine va_get (D := g.1) (ci := 3) (v := .ref a_ke) (C := RX3) (T := TX3) (N := 5) hx hb hts in_X3_makeRoom_X3 hown hK hP 0 rfl rfl 3 (by decide) (hts (.fieldLink RX3 22 "RandomModels$Things" "kept" "[I") (by decide +kernel)) (fun _ h9 => h9) rfl dX3_makeRoom_34 ?_
        refine va_alen (v := Int32.ofNat kn) hx hb hK hP 3 0 rfl rfl rfl dX3_makeRoom_37 ?_
        obtain ⟨c8, h⟩ := h
        refine va_copyi (ty := .int) hx hb (hml.trans hl.1.symm) hown (hts (.methodLink RX3 51 arraycopyName) (by decide +kernel)) (hts (.native arraycopyName) (by decide +kernel)) (hts (.static arraycopyName) (by decide +kernel)) (hts (.initialized "java/lang/System") (by decide +kernel)) hK hP hD hS 3 8 0 0 rfl rfl rfl rfl rfl c8.1 c8.2.1 c8.2.2.1 c8.2.2.2.1 c8.2.2.2.2 (fun _ _ => rfl) (Nat.le_of_ble_eq_true rfl) (Nat.le_of_ble_eq_true rfl) dX3_makeRoom_38 (fun H locs hP hD hS => ?_)
        have hP : va_P g.1 vwCl [(a_th, .inr (3, [.ref a_pr, .ref a_tw, .ref a_tr, .ref a_ke, .int sl])), (a_tw, .inl (xcI g, 60, .inl f_tw)), (a_tr, .inl (xcI g, 180, .inl f_tr)), (a_ke, .inl (xcI g, kn, .inl f_ke)), (a_pr, .inr (1, [.ref a_lo, .ref a_hi, .ref a_st])), (a_lo, .inl (xcI g, 15, .inl f_lo)), (a_hi, .inl (xcI g, 15, .inl f_hi)), (a_st, .inl (xcI g, 6, .inl f_st)), (q5, .inl (xcI g, p_graphs.toNatClampNeg, .inl (va_cpy f_ke (fun _ => (0 : Int32)) (0 : Int32).toNatClampNeg (0 : Int32).toNatClampNeg (Int32.ofNat kn).toNatClampNeg)))] H := hP
        have hD : va_D A [(a_th, .inr (3, [.ref a_pr, .ref a_tw, .ref a_tr, .ref a_ke, .int sl])), (a_tw, .inl (xcI g, 60, .inl f_tw)), (a_tr, .inl (xcI g, 180, .inl f_tr)), (a_ke, .inl (xcI g, kn, .inl f_ke)), (a_pr, .inr (1, [.ref a_lo, .ref a_hi, .ref a_st])), (a_lo, .inl (xcI g, 15, .inl f_lo)), (a_hi, .inl (xcI g, 15, .inl f_hi)), (a_st, .inl (xcI g, 6, .inl f_st)), (q5, .inl (xcI g, p_graphs.toNatClampNeg, .inl (va_cpy f_ke (fun _ => (0 : Int32)) (0 : Int32).toNatClampNeg (0 : Int32).toNatClampNeg (Int32.ofNat kn).toNatClampNeg)))] := hD
        refine lv_aload_n hx hb dX3_makeRoom_41 rfl (lv_at hl 1 rfl) ?_
        refine lv_aload_n hx hb dX3_makeRoom_42 rfl (lv_at hl 0 rfl) ?_
        refine va_put (D := g.1) (ci := 3) (v := .ref q5) (ty := .array .int) (C := RX3) (T := TX3) (N := 5) hx hb hts in_X3_makeRoom_X3 tyX3 tyX3_ok nmX3 hown hK hP hD hS 0 rfl rfl 3 (by decide) (hts (.fieldLink RX3 22 "RandomModels$Things" "kept" "[I") (by decide +kernel)) (fun _ h9 => h9) rfl (by decide +kernel) rfl rfl (Nat.le_of_ble_eq_true rfl) dX3_makeRoom_43 (fun H locs hP hD hS => ?_)
        have hP : va_P g.1 vwCl [(a_th, .inr (3, [.ref a_pr, .ref a_tw, .ref a_tr, .ref q5, .int sl])), (a_tw, .inl (xcI g, 60, .inl f_tw)), (a_tr, .inl (xcI g, 180, .inl f_tr)), (a_ke, .inl (xcI g, kn, .inl f_ke)), (a_pr, .inr (1, [.ref a_lo, .ref a_hi, .ref a_st])), (a_lo, .inl (xcI g, 15, .inl f_lo)), (a_hi, .inl (xcI g, 15, .inl f_hi)), (a_st, .inl (xcI g, 6, .inl f_st)), (q5, .inl (xcI g, p_graphs.toNatClampNeg, .inl (va_cpy f_ke (fun _ => (0 : Int32)) (0 : Int32).toNatClampNeg (0 : Int32).toNatClampNeg (Int32.ofNat kn).toNatClampNeg)))] H := hP
        have hD : va_D A [(a_th, .inr (3, [.ref a_pr, .ref a_tw, .ref a_tr, .ref q5, .int sl])), (a_tw, .inl (xcI g, 60, .inl f_tw)), (a_tr, .inl (xcI g, 180, .inl f_tr)), (a_ke, .inl (xcI g, kn, .inl f_ke)), (a_pr, .inr (1, [.ref a_lo, .ref a_hi, .ref a_st])), (a_lo, .inl (xcI g, 15, .inl f_lo)), (a_hi, .inl (xcI g, 15, .inl f_hi)), (a_st, .inl (xcI g, 6, .inl f_st)), (q5, .inl (xcI g, p_graphs.toNatClampNeg, .inl (va_cpy f_ke (fun _ => (0 : Int32)) (0 : Int32).toNatClampNeg (0 : Int32).toNatClampNeg (Int32.ofNat kn).toNatClampNeg)))] := hD
        refine W.widen (k := mC) (n := mS) (by omega) (by omega) ?_
        exact xretv (q5, p_graphs.toNatClampNeg, (va_cpy f_ke (fun _ => (0 : Int32)) (0 : Int32).toNatClampNeg (0 : Int32).toNatClampNeg (Int32.ofNat kn).toNatClampNeg)) C0 (hP.sub [0, 1, 2, 8, 4, 5, 6, 7] rfl) (hD.sub [0, 1, 2, 8, 4, 5, 6, 7] (by decide) rfl) hS h dX3_makeRoom_46

def b_X3_fillSteps_148 (f_lo : Nat → Int32) (f_hi : Nat → Int32) (post : (Nat → Int32) → (Nat → Int32) → Prop) (k32 : (Int32) → (Int32) → (Int32) → (Int32) → (Int32) → (Nat → Int32) → (Nat → Int32) → Prop) (x2 : Int32) (x3 : Int32) (x4 : Int32) (x5 : Int32) (x6 : Int32) (f_tw : Nat → Int32) (f_tr : Nat → Int32) : Prop := k32 x2 x3 x4 x5 (x6 + 1) f_tw f_tr
def b_X3_fillSteps_142 (f_lo : Nat → Int32) (f_hi : Nat → Int32) (post : (Nat → Int32) → (Nat → Int32) → Prop) (k32 : (Int32) → (Int32) → (Int32) → (Int32) → (Int32) → (Nat → Int32) → (Nat → Int32) → Prop) (k85 : (Int32) → (Int32) → (Int32) → (Int32) → (Int32) → (Int32) → (Int32) → (Nat → Int32) → (Nat → Int32) → Prop) (x2 : Int32) (x3 : Int32) (x4 : Int32) (x5 : Int32) (x6 : Int32) (x7 : Int32) (x8 : Int32) (f_tw : Nat → Int32) (f_tr : Nat → Int32) : Prop := k85 x2 x3 x4 x5 x6 x7 (x8 + 1) f_tw f_tr
def b_X3_fillSteps_85 (f_lo : Nat → Int32) (f_hi : Nat → Int32) (post : (Nat → Int32) → (Nat → Int32) → Prop) (k32 : (Int32) → (Int32) → (Int32) → (Int32) → (Int32) → (Nat → Int32) → (Nat → Int32) → Prop) : Nat → (Int32) → (Int32) → (Int32) → (Int32) → (Int32) → (Int32) → (Int32) → (Nat → Int32) → (Nat → Int32) → Prop
  | 0 => fun x2 x3 x4 x5 x6 x7 x8 f_tw f_tr => False
  | n85 + 1 => fun x2 x3 x4 x5 x6 x7 x8 f_tw f_tr => (((6 : Int32) ≤ x8 → b_X3_fillSteps_148 f_lo f_hi post k32 x2 x3 x4 x5 x6 f_tw f_tr) ∧ (¬ (6 : Int32) ≤ x8 → ((x8 = x2 → b_X3_fillSteps_142 f_lo f_hi post k32 (b_X3_fillSteps_85 f_lo f_hi post k32 n85) x2 x3 x4 x5 x6 x7 x8 f_tw f_tr) ∧ (¬ x8 = x2 → ((x8 = x3 → b_X3_fillSteps_142 f_lo f_hi post k32 (b_X3_fillSteps_85 f_lo f_hi post k32 n85) x2 x3 x4 x5 x6 x7 x8 f_tw f_tr) ∧ (¬ x8 = x3 → ((x8 = x6 → b_X3_fillSteps_142 f_lo f_hi post k32 (b_X3_fillSteps_85 f_lo f_hi post k32 n85) x2 x3 x4 x5 x6 x7 x8 f_tw f_tr) ∧ (¬ x8 = x6 → wp_X1_indexOf x6 x8 (fun r13 => wp_X1_indexOf x8 x3 (fun r14 => (vp_in x5 180 ∧ b_X3_fillSteps_142 f_lo f_hi post k32 (b_X3_fillSteps_85 f_lo f_hi post k32 n85) x2 x3 x4 (x5 + 1) x6 x7 x8 f_tw (upd f_tr x5.toNatClampNeg ((x7 ||| ((1 : Int32) <<< (r13 &&& 31))) ||| ((1 : Int32) <<< (r14 &&& 31)))))))))))))))
def b_X3_fillSteps_32 (f_lo : Nat → Int32) (f_hi : Nat → Int32) (post : (Nat → Int32) → (Nat → Int32) → Prop) : Nat → (Int32) → (Int32) → (Int32) → (Int32) → (Int32) → (Nat → Int32) → (Nat → Int32) → Prop
  | 0 => fun x2 x3 x4 x5 x6 f_tw f_tr => False
  | n32 + 1 => fun x2 x3 x4 x5 x6 f_tw f_tr => (((6 : Int32) ≤ x6 → post f_tw f_tr) ∧ (¬ (6 : Int32) ≤ x6 → ((x6 = x2 → b_X3_fillSteps_148 f_lo f_hi post (b_X3_fillSteps_32 f_lo f_hi post  n32) x2 x3 x4 x5 x6 f_tw f_tr) ∧ (¬ x6 = x2 → ((x6 = x3 → b_X3_fillSteps_148 f_lo f_hi post (b_X3_fillSteps_32 f_lo f_hi post  n32) x2 x3 x4 x5 x6 f_tw f_tr) ∧ (¬ x6 = x3 → wp_X1_indexOf x2 x6 (fun r6 => wp_X1_indexOf x6 x3 (fun r7 => (vp_in x4 60 ∧ ∃ n : Nat, b_X3_fillSteps_85 f_lo f_hi post (b_X3_fillSteps_32 f_lo f_hi post  n32) n x2 x3 (x4 + 1) x5 x6 ((1 : Int32) <<< (r6 &&& 31)) (0 : Int32) (upd f_tw x4.toNatClampNeg (((1 : Int32) <<< (r6 &&& 31)) ||| ((1 : Int32) <<< (r7 &&& 31)))) f_tr)))))))))
def wp_X3_fillSteps (p_p : Int32) (f_lo : Nat → Int32) (f_hi : Nat → Int32) (f_tw : Nat → Int32) (f_tr : Nat → Int32) (post : (Nat → Int32) → (Nat → Int32) → Prop) : Prop := wp_X1_low p_p f_lo (fun r1 => wp_X1_high p_p f_hi (fun r2 => ∃ n : Nat, b_X3_fillSteps_32 f_lo f_hi post  n r1 r2 (p_p * (4 : Int32)) (p_p * (12 : Int32)) (0 : Int32) f_tw f_tr))
abbrev q_X3_fillSteps (g : xG) (a_th : Nat) (a_tw : Nat) (a_tr : Nat) (a_ke : Nat) (a_pr : Nat) (a_lo : Nat) (a_hi : Nat) (a_st : Nat) (sl : Int32) (kn : Nat) (f_ke : Nat → Int32) (f_lo : Nat → Int32) (f_hi : Nat → Int32) (f_st : Nat → Int32) (post : (Nat → Int32) → (Nat → Int32) → Prop) : (Nat → Prop) → Array Value → State → Outcome → State → Prop := xQv g (fun (u : (Nat → Int32) × (Nat → Int32)) => match u with | (f_tw, f_tr) => post f_tw f_tr) (fun (u : (Nat → Int32) × (Nat → Int32)) => match u with | (f_tw, f_tr) => [(a_th, .inr (3, [.ref a_pr, .ref a_tw, .ref a_tr, .ref a_ke, .int sl])), (a_tw, .inl (xcI g, 60, .inl f_tw)), (a_tr, .inl (xcI g, 180, .inl f_tr)), (a_ke, .inl (xcI g, kn, .inl f_ke)), (a_pr, .inr (1, [.ref a_lo, .ref a_hi, .ref a_st])), (a_lo, .inl (xcI g, 15, .inl f_lo)), (a_hi, .inl (xcI g, 15, .inl f_hi)), (a_st, .inl (xcI g, 6, .inl f_st))])
theorem in_X3_fillSteps_X3 : ∀ w ∈ u_ws RX3 TX3 5, w ∈ wsX3_fillSteps := by decide +kernel
set_option maxHeartbeats 1000000 in
set_option maxRecDepth 100000 in
theorem w_X3_fillSteps_148 {p : Program} {l : Launch} {e : Env} {s : State} {m : MethodId} {args : Array Value} {below : List Frame} {meth : Method} {c : Code} {A : Nat → Prop} {g : xG} (C0 : vx g p s m args meth c cX3_fillSteps none 9 yX3_fillSteps wsX3_fillSteps A) (a_th : Nat) (a_tw : Nat) (a_tr : Nat) (a_ke : Nat) (a_pr : Nat) (a_lo : Nat) (a_hi : Nat) (a_st : Nat) (sl : Int32) (kn : Nat) (f_ke : Nat → Int32) (f_lo : Nat → Int32) (f_hi : Nat → Int32) (f_st : Nat → Int32) (post : (Nat → Int32) → (Nat → Int32) → Prop) (k32 : (Int32) → (Int32) → (Int32) → (Int32) → (Int32) → (Nat → Int32) → (Nat → Int32) → Prop) (hk32 : ∀ (x2 : Int32) (x3 : Int32) (x4 : Int32) (x5 : Int32) (x6 : Int32) (f_tw : Nat → Int32) (f_tr : Nat → Int32) {H : Heap} {locs : List Loc} {ls : Array Slot}, va_P g.1 vwCl [(a_th, .inr (3, [.ref a_pr, .ref a_tw, .ref a_tr, .ref a_ke, .int sl])), (a_tw, .inl (xcI g, 60, .inl f_tw)), (a_tr, .inl (xcI g, 180, .inl f_tr)), (a_ke, .inl (xcI g, kn, .inl f_ke)), (a_pr, .inr (1, [.ref a_lo, .ref a_hi, .ref a_st])), (a_lo, .inl (xcI g, 15, .inl f_lo)), (a_hi, .inl (xcI g, 15, .inl f_hi)), (a_st, .inl (xcI g, 6, .inl f_st))] H → va_D A [(a_th, .inr (3, [.ref a_pr, .ref a_tw, .ref a_tr, .ref a_ke, .int sl])), (a_tw, .inl (xcI g, 60, .inl f_tw)), (a_tr, .inl (xcI g, 180, .inl f_tr)), (a_ke, .inl (xcI g, kn, .inl f_ke)), (a_pr, .inr (1, [.ref a_lo, .ref a_hi, .ref a_st])), (a_lo, .inl (xcI g, 15, .inl f_lo)), (a_hi, .inl (xcI g, 15, .inl f_hi)), (a_st, .inl (xcI g, 6, .inl f_st))] → va_S A s.heap H locs → lv_has ls 9 [(0, .ref a_th), (2, .int x2), (3, .int x3), (4, .int x4), (5, .int x5), (6, .int x6)] → k32 x2 x3 x4 x5 x6 f_tw f_tr → W p l e ({ frames := 2, cells := 0, slots := 0, locals := 41 } : Room) s m args below meth c H locs 0 0 (MQ below ((q_X3_fillSteps g a_th a_tw a_tr a_ke a_pr a_lo a_hi a_st sl kn f_ke f_lo f_hi f_st post) A) args s 0 0 A) (F0 m 32 ls [])) (x2 : Int32) (x3 : Int32) (x4 : Int32) (x5 : Int32) (x6 : Int32) (f_tw : Nat → Int32) (f_tr : Nat → Int32) {H : Heap} {locs : List Loc} {ls : Array Slot} (hP : va_P g.1 vwCl [(a_th, .inr (3, [.ref a_pr, .ref a_tw, .ref a_tr, .ref a_ke, .int sl])), (a_tw, .inl (xcI g, 60, .inl f_tw)), (a_tr, .inl (xcI g, 180, .inl f_tr)), (a_ke, .inl (xcI g, kn, .inl f_ke)), (a_pr, .inr (1, [.ref a_lo, .ref a_hi, .ref a_st])), (a_lo, .inl (xcI g, 15, .inl f_lo)), (a_hi, .inl (xcI g, 15, .inl f_hi)), (a_st, .inl (xcI g, 6, .inl f_st))] H) (hD : va_D A [(a_th, .inr (3, [.ref a_pr, .ref a_tw, .ref a_tr, .ref a_ke, .int sl])), (a_tw, .inl (xcI g, 60, .inl f_tw)), (a_tr, .inl (xcI g, 180, .inl f_tr)), (a_ke, .inl (xcI g, kn, .inl f_ke)), (a_pr, .inr (1, [.ref a_lo, .ref a_hi, .ref a_st])), (a_lo, .inl (xcI g, 15, .inl f_lo)), (a_hi, .inl (xcI g, 15, .inl f_hi)), (a_st, .inl (xcI g, 6, .inl f_st))]) (hS : va_S A s.heap H locs) (hl : lv_has ls 9 [(0, .ref a_th), (2, .int x2), (3, .int x3), (4, .int x4), (5, .int x5), (6, .int x6)]) (h : b_X3_fillSteps_148 f_lo f_hi post k32 x2 x3 x4 x5 x6 f_tw f_tr) : W p l e ({ frames := 2, cells := 0, slots := 0, locals := 41 } : Room) s m args below meth c H locs 0 0 (MQ below ((q_X3_fillSteps g a_th a_tw a_tr a_ke a_pr a_lo a_hi a_st sl kn f_ke f_lo f_hi f_st post) A) args s 0 0 A) (F0 m 148 ls []) := by
  obtain ⟨hx, hb, hr, hml, hown, hin, hts, hlocks, hA, hK, hZ⟩ := id C0
  have hown : s.vm.findClass RX3 = some m.cls := hown
  unfold b_X3_fillSteps_148 at h
  refine lv_iinc (v := (x6 + 1)) (lv' := [(6, .int (x6 + 1)), (0, .ref a_th), (2, .int x2), (3, .int x3), (4, .int x4), (5, .int x5)]) hx hb dX3_fillSteps_148 hl (k := 5) rfl rfl (by decide) rfl (fun ls hl => ?_)
  refine lv_goto (tgt := 32) hx hb dX3_fillSteps_151 (by decide) ?_
  exact hk32  x2 x3 x4 x5 (x6 + 1) f_tw f_tr hP hD hS (lv_sub hl [1, 2, 3, 4, 5, 0] rfl) h
set_option maxHeartbeats 1000000 in
set_option maxRecDepth 100000 in
theorem w_X3_fillSteps_142 {p : Program} {l : Launch} {e : Env} {s : State} {m : MethodId} {args : Array Value} {below : List Frame} {meth : Method} {c : Code} {A : Nat → Prop} {g : xG} (C0 : vx g p s m args meth c cX3_fillSteps none 9 yX3_fillSteps wsX3_fillSteps A) (a_th : Nat) (a_tw : Nat) (a_tr : Nat) (a_ke : Nat) (a_pr : Nat) (a_lo : Nat) (a_hi : Nat) (a_st : Nat) (sl : Int32) (kn : Nat) (f_ke : Nat → Int32) (f_lo : Nat → Int32) (f_hi : Nat → Int32) (f_st : Nat → Int32) (post : (Nat → Int32) → (Nat → Int32) → Prop) (k32 : (Int32) → (Int32) → (Int32) → (Int32) → (Int32) → (Nat → Int32) → (Nat → Int32) → Prop) (k85 : (Int32) → (Int32) → (Int32) → (Int32) → (Int32) → (Int32) → (Int32) → (Nat → Int32) → (Nat → Int32) → Prop) (hk32 : ∀ (x2 : Int32) (x3 : Int32) (x4 : Int32) (x5 : Int32) (x6 : Int32) (f_tw : Nat → Int32) (f_tr : Nat → Int32) {H : Heap} {locs : List Loc} {ls : Array Slot}, va_P g.1 vwCl [(a_th, .inr (3, [.ref a_pr, .ref a_tw, .ref a_tr, .ref a_ke, .int sl])), (a_tw, .inl (xcI g, 60, .inl f_tw)), (a_tr, .inl (xcI g, 180, .inl f_tr)), (a_ke, .inl (xcI g, kn, .inl f_ke)), (a_pr, .inr (1, [.ref a_lo, .ref a_hi, .ref a_st])), (a_lo, .inl (xcI g, 15, .inl f_lo)), (a_hi, .inl (xcI g, 15, .inl f_hi)), (a_st, .inl (xcI g, 6, .inl f_st))] H → va_D A [(a_th, .inr (3, [.ref a_pr, .ref a_tw, .ref a_tr, .ref a_ke, .int sl])), (a_tw, .inl (xcI g, 60, .inl f_tw)), (a_tr, .inl (xcI g, 180, .inl f_tr)), (a_ke, .inl (xcI g, kn, .inl f_ke)), (a_pr, .inr (1, [.ref a_lo, .ref a_hi, .ref a_st])), (a_lo, .inl (xcI g, 15, .inl f_lo)), (a_hi, .inl (xcI g, 15, .inl f_hi)), (a_st, .inl (xcI g, 6, .inl f_st))] → va_S A s.heap H locs → lv_has ls 9 [(0, .ref a_th), (2, .int x2), (3, .int x3), (4, .int x4), (5, .int x5), (6, .int x6)] → k32 x2 x3 x4 x5 x6 f_tw f_tr → W p l e ({ frames := 2, cells := 0, slots := 0, locals := 41 } : Room) s m args below meth c H locs 0 0 (MQ below ((q_X3_fillSteps g a_th a_tw a_tr a_ke a_pr a_lo a_hi a_st sl kn f_ke f_lo f_hi f_st post) A) args s 0 0 A) (F0 m 32 ls [])) (hk85 : ∀ (x2 : Int32) (x3 : Int32) (x4 : Int32) (x5 : Int32) (x6 : Int32) (x7 : Int32) (x8 : Int32) (f_tw : Nat → Int32) (f_tr : Nat → Int32) {H : Heap} {locs : List Loc} {ls : Array Slot}, va_P g.1 vwCl [(a_th, .inr (3, [.ref a_pr, .ref a_tw, .ref a_tr, .ref a_ke, .int sl])), (a_tw, .inl (xcI g, 60, .inl f_tw)), (a_tr, .inl (xcI g, 180, .inl f_tr)), (a_ke, .inl (xcI g, kn, .inl f_ke)), (a_pr, .inr (1, [.ref a_lo, .ref a_hi, .ref a_st])), (a_lo, .inl (xcI g, 15, .inl f_lo)), (a_hi, .inl (xcI g, 15, .inl f_hi)), (a_st, .inl (xcI g, 6, .inl f_st))] H → va_D A [(a_th, .inr (3, [.ref a_pr, .ref a_tw, .ref a_tr, .ref a_ke, .int sl])), (a_tw, .inl (xcI g, 60, .inl f_tw)), (a_tr, .inl (xcI g, 180, .inl f_tr)), (a_ke, .inl (xcI g, kn, .inl f_ke)), (a_pr, .inr (1, [.ref a_lo, .ref a_hi, .ref a_st])), (a_lo, .inl (xcI g, 15, .inl f_lo)), (a_hi, .inl (xcI g, 15, .inl f_hi)), (a_st, .inl (xcI g, 6, .inl f_st))] → va_S A s.heap H locs → lv_has ls 9 [(0, .ref a_th), (2, .int x2), (3, .int x3), (4, .int x4), (5, .int x5), (6, .int x6), (7, .int x7), (8, .int x8)] → k85 x2 x3 x4 x5 x6 x7 x8 f_tw f_tr → W p l e ({ frames := 2, cells := 0, slots := 0, locals := 41 } : Room) s m args below meth c H locs 0 0 (MQ below ((q_X3_fillSteps g a_th a_tw a_tr a_ke a_pr a_lo a_hi a_st sl kn f_ke f_lo f_hi f_st post) A) args s 0 0 A) (F0 m 85 ls [])) (x2 : Int32) (x3 : Int32) (x4 : Int32) (x5 : Int32) (x6 : Int32) (x7 : Int32) (x8 : Int32) (f_tw : Nat → Int32) (f_tr : Nat → Int32) {H : Heap} {locs : List Loc} {ls : Array Slot} (hP : va_P g.1 vwCl [(a_th, .inr (3, [.ref a_pr, .ref a_tw, .ref a_tr, .ref a_ke, .int sl])), (a_tw, .inl (xcI g, 60, .inl f_tw)), (a_tr, .inl (xcI g, 180, .inl f_tr)), (a_ke, .inl (xcI g, kn, .inl f_ke)), (a_pr, .inr (1, [.ref a_lo, .ref a_hi, .ref a_st])), (a_lo, .inl (xcI g, 15, .inl f_lo)), (a_hi, .inl (xcI g, 15, .inl f_hi)), (a_st, .inl (xcI g, 6, .inl f_st))] H) (hD : va_D A [(a_th, .inr (3, [.ref a_pr, .ref a_tw, .ref a_tr, .ref a_ke, .int sl])), (a_tw, .inl (xcI g, 60, .inl f_tw)), (a_tr, .inl (xcI g, 180, .inl f_tr)), (a_ke, .inl (xcI g, kn, .inl f_ke)), (a_pr, .inr (1, [.ref a_lo, .ref a_hi, .ref a_st])), (a_lo, .inl (xcI g, 15, .inl f_lo)), (a_hi, .inl (xcI g, 15, .inl f_hi)), (a_st, .inl (xcI g, 6, .inl f_st))]) (hS : va_S A s.heap H locs) (hl : lv_has ls 9 [(0, .ref a_th), (2, .int x2), (3, .int x3), (4, .int x4), (5, .int x5), (6, .int x6), (7, .int x7), (8, .int x8)]) (h : b_X3_fillSteps_142 f_lo f_hi post k32 k85 x2 x3 x4 x5 x6 x7 x8 f_tw f_tr) : W p l e ({ frames := 2, cells := 0, slots := 0, locals := 41 } : Room) s m args below meth c H locs 0 0 (MQ below ((q_X3_fillSteps g a_th a_tw a_tr a_ke a_pr a_lo a_hi a_st sl kn f_ke f_lo f_hi f_st post) A) args s 0 0 A) (F0 m 142 ls []) := by
  obtain ⟨hx, hb, hr, hml, hown, hin, hts, hlocks, hA, hK, hZ⟩ := id C0
  have hown : s.vm.findClass RX3 = some m.cls := hown
  unfold b_X3_fillSteps_142 at h
  refine lv_iinc (v := (x8 + 1)) (lv' := [(8, .int (x8 + 1)), (0, .ref a_th), (2, .int x2), (3, .int x3), (4, .int x4), (5, .int x5), (6, .int x6), (7, .int x7)]) hx hb dX3_fillSteps_142 hl (k := 7) rfl rfl (by decide) rfl (fun ls hl => ?_)
  refine lv_goto (tgt := 85) hx hb dX3_fillSteps_145 (by decide) ?_
  exact hk85  x2 x3 x4 x5 x6 x7 (x8 + 1) f_tw f_tr hP hD hS (lv_sub hl [1, 2, 3, 4, 5, 6, 7, 0] rfl) h
set_option maxHeartbeats 1000000 in
set_option maxRecDepth 100000 in
theorem w_X3_fillSteps_85 {p : Program} {l : Launch} {e : Env} {s : State} {m : MethodId} {args : Array Value} {below : List Frame} {meth : Method} {c : Code} {A : Nat → Prop} {g : xG} (C0 : vx g p s m args meth c cX3_fillSteps none 9 yX3_fillSteps wsX3_fillSteps A) (a_th : Nat) (a_tw : Nat) (a_tr : Nat) (a_ke : Nat) (a_pr : Nat) (a_lo : Nat) (a_hi : Nat) (a_st : Nat) (sl : Int32) (kn : Nat) (f_ke : Nat → Int32) (f_lo : Nat → Int32) (f_hi : Nat → Int32) (f_st : Nat → Int32) (post : (Nat → Int32) → (Nat → Int32) → Prop) (k32 : (Int32) → (Int32) → (Int32) → (Int32) → (Int32) → (Nat → Int32) → (Nat → Int32) → Prop) (hk32 : ∀ (x2 : Int32) (x3 : Int32) (x4 : Int32) (x5 : Int32) (x6 : Int32) (f_tw : Nat → Int32) (f_tr : Nat → Int32) {H : Heap} {locs : List Loc} {ls : Array Slot}, va_P g.1 vwCl [(a_th, .inr (3, [.ref a_pr, .ref a_tw, .ref a_tr, .ref a_ke, .int sl])), (a_tw, .inl (xcI g, 60, .inl f_tw)), (a_tr, .inl (xcI g, 180, .inl f_tr)), (a_ke, .inl (xcI g, kn, .inl f_ke)), (a_pr, .inr (1, [.ref a_lo, .ref a_hi, .ref a_st])), (a_lo, .inl (xcI g, 15, .inl f_lo)), (a_hi, .inl (xcI g, 15, .inl f_hi)), (a_st, .inl (xcI g, 6, .inl f_st))] H → va_D A [(a_th, .inr (3, [.ref a_pr, .ref a_tw, .ref a_tr, .ref a_ke, .int sl])), (a_tw, .inl (xcI g, 60, .inl f_tw)), (a_tr, .inl (xcI g, 180, .inl f_tr)), (a_ke, .inl (xcI g, kn, .inl f_ke)), (a_pr, .inr (1, [.ref a_lo, .ref a_hi, .ref a_st])), (a_lo, .inl (xcI g, 15, .inl f_lo)), (a_hi, .inl (xcI g, 15, .inl f_hi)), (a_st, .inl (xcI g, 6, .inl f_st))] → va_S A s.heap H locs → lv_has ls 9 [(0, .ref a_th), (2, .int x2), (3, .int x3), (4, .int x4), (5, .int x5), (6, .int x6)] → k32 x2 x3 x4 x5 x6 f_tw f_tr → W p l e ({ frames := 2, cells := 0, slots := 0, locals := 41 } : Room) s m args below meth c H locs 0 0 (MQ below ((q_X3_fillSteps g a_th a_tw a_tr a_ke a_pr a_lo a_hi a_st sl kn f_ke f_lo f_hi f_st post) A) args s 0 0 A) (F0 m 32 ls [])) : ∀ (n : Nat) (x2 : Int32) (x3 : Int32) (x4 : Int32) (x5 : Int32) (x6 : Int32) (x7 : Int32) (x8 : Int32) (f_tw : Nat → Int32) (f_tr : Nat → Int32) {H : Heap} {locs : List Loc} {ls : Array Slot}, va_P g.1 vwCl [(a_th, .inr (3, [.ref a_pr, .ref a_tw, .ref a_tr, .ref a_ke, .int sl])), (a_tw, .inl (xcI g, 60, .inl f_tw)), (a_tr, .inl (xcI g, 180, .inl f_tr)), (a_ke, .inl (xcI g, kn, .inl f_ke)), (a_pr, .inr (1, [.ref a_lo, .ref a_hi, .ref a_st])), (a_lo, .inl (xcI g, 15, .inl f_lo)), (a_hi, .inl (xcI g, 15, .inl f_hi)), (a_st, .inl (xcI g, 6, .inl f_st))] H → va_D A [(a_th, .inr (3, [.ref a_pr, .ref a_tw, .ref a_tr, .ref a_ke, .int sl])), (a_tw, .inl (xcI g, 60, .inl f_tw)), (a_tr, .inl (xcI g, 180, .inl f_tr)), (a_ke, .inl (xcI g, kn, .inl f_ke)), (a_pr, .inr (1, [.ref a_lo, .ref a_hi, .ref a_st])), (a_lo, .inl (xcI g, 15, .inl f_lo)), (a_hi, .inl (xcI g, 15, .inl f_hi)), (a_st, .inl (xcI g, 6, .inl f_st))] → va_S A s.heap H locs → lv_has ls 9 [(0, .ref a_th), (2, .int x2), (3, .int x3), (4, .int x4), (5, .int x5), (6, .int x6), (7, .int x7), (8, .int x8)] → b_X3_fillSteps_85 f_lo f_hi post k32 n x2 x3 x4 x5 x6 x7 x8 f_tw f_tr → W p l e ({ frames := 2, cells := 0, slots := 0, locals := 41 } : Room) s m args below meth c H locs 0 0 (MQ below ((q_X3_fillSteps g a_th a_tw a_tr a_ke a_pr a_lo a_hi a_st sl kn f_ke f_lo f_hi f_st post) A) args s 0 0 A) (F0 m 85 ls []) := by
  obtain ⟨hx, hb, hr, hml, hown, hin, hts, hlocks, hA, hK, hZ⟩ := id C0
  have hown : s.vm.findClass RX3 = some m.cls := hown
  intro n
  induction n with
  | zero =>
    intro  x2 x3 x4 x5 x6 x7 x8 f_tw f_tr H locs ls hP hD hS hl h
    exact False.elim h
  | succ n85 hk85 =>
    intro  x2 x3 x4 x5 x6 x7 x8 f_tw f_tr H locs ls hP hD hS hl h
    unfold b_X3_fillSteps_85 at h
    refine lv_iload hx hb dX3_fillSteps_85 (lv_at hl 7 rfl) ?_
    refine lv_bipush (v := 6) hx hb dX3_fillSteps_87 (by decide) ?_
    refine lv_icmp_ge (tgt := 148) hx hb dX3_fillSteps_89 (by decide) (fun c9 => ?_) (fun c9 => ?_)
    · have h := h.1 c9
      exact w_X3_fillSteps_148 C0 a_th a_tw a_tr a_ke a_pr a_lo a_hi a_st sl kn f_ke f_lo f_hi f_st post k32 hk32  x2 x3 x4 x5 x6 f_tw f_tr hP hD hS (lv_sub hl [0, 1, 2, 3, 4, 5] rfl) h
    · have h := h.2 c9
      refine lv_iload hx hb dX3_fillSteps_92 (lv_at hl 7 rfl) ?_
      refine lv_iload_n hx hb dX3_fillSteps_94 rfl (lv_at hl 1 rfl) ?_
      refine lv_icmp_eq (tgt := 142) hx hb dX3_fillSteps_95 (by decide) (fun c10 => ?_) (fun c10 => ?_)
      · have h := h.1 c10
        exact w_X3_fillSteps_142 C0 a_th a_tw a_tr a_ke a_pr a_lo a_hi a_st sl kn f_ke f_lo f_hi f_st post k32 (b_X3_fillSteps_85 f_lo f_hi post k32 n85) hk32 hk85  x2 x3 x4 x5 x6 x7 x8 f_tw f_tr hP hD hS (lv_sub hl [0, 1, 2, 3, 4, 5, 6, 7] rfl) h
      · have h := h.2 c10
        refine lv_iload hx hb dX3_fillSteps_98 (lv_at hl 7 rfl) ?_
        refine lv_iload_n hx hb dX3_fillSteps_100 rfl (lv_at hl 2 rfl) ?_
        refine lv_icmp_eq (tgt := 142) hx hb dX3_fillSteps_101 (by decide) (fun c11 => ?_) (fun c11 => ?_)
        · have h := h.1 c11
          exact w_X3_fillSteps_142 C0 a_th a_tw a_tr a_ke a_pr a_lo a_hi a_st sl kn f_ke f_lo f_hi f_st post k32 (b_X3_fillSteps_85 f_lo f_hi post k32 n85) hk32 hk85  x2 x3 x4 x5 x6 x7 x8 f_tw f_tr hP hD hS (lv_sub hl [0, 1, 2, 3, 4, 5, 6, 7] rfl) h
        · have h := h.2 c11
          refine lv_iload hx hb dX3_fillSteps_104 (lv_at hl 7 rfl) ?_
          refine lv_iload hx hb dX3_fillSteps_106 (lv_at hl 5 rfl) ?_
          refine lv_icmp_eq (tgt := 142) hx hb dX3_fillSteps_108 (by decide) (fun c12 => ?_) (fun c12 => ?_)
          · have h := h.1 c12
            exact w_X3_fillSteps_142 C0 a_th a_tw a_tr a_ke a_pr a_lo a_hi a_st sl kn f_ke f_lo f_hi f_st post k32 (b_X3_fillSteps_85 f_lo f_hi post k32 n85) hk32 hk85  x2 x3 x4 x5 x6 x7 x8 f_tw f_tr hP hD hS (lv_sub hl [0, 1, 2, 3, 4, 5, 6, 7] rfl) h
          · have h := h.2 c12
            refine lv_aload_n hx hb dX3_fillSteps_111 rfl (lv_at hl 0 rfl) ?_
            refine va_get (D := g.1) (ci := 3) (v := .ref a_tr) (C := RX3) (T := TX3) (N := 5) hx hb hts in_X3_fillSteps_X3 hown hK hP 0 rfl rfl 2 (by decide) (hts (.fieldLink RX3 19 "RandomModels$Things" "threeSteps" "[I") (by decide +kernel)) (fun _ h9 => h9) rfl dX3_fillSteps_112 ?_
            refine lv_iload hx hb dX3_fillSteps_115 (lv_at hl 4 rfl) ?_
            refine lv_iload hx hb dX3_fillSteps_117 (lv_at hl 6 rfl) ?_
            refine lv_iconst (v := 1) hx hb dX3_fillSteps_119 (by decide) ?_
            refine lv_iload hx hb dX3_fillSteps_120 (lv_at hl 5 rfl) ?_
            refine lv_iload hx hb dX3_fillSteps_122 (lv_at hl 7 rfl) ?_
            refine xi (wr := [(a_th, .inr (3, [.ref a_pr, .ref a_tw, .ref a_tr, .ref a_ke, .int sl])), (a_tw, .inl (xcI g, 60, .inl f_tw)), (a_tr, .inl (xcI g, 180, .inl f_tr)), (a_ke, .inl (xcI g, kn, .inl f_ke)), (a_pr, .inr (1, [.ref a_lo, .ref a_hi, .ref a_st])), (a_lo, .inl (xcI g, 15, .inl f_lo)), (a_hi, .inl (xcI g, 15, .inl f_hi)), (a_st, .inl (xcI g, 6, .inl f_st))]) (xrS (As := [.int x6, .int x8]) (rest := [.int (1 : Int32), .int x7, .int x5, .ref a_tr]) C0 hl.1 (c_X1_indexOf l g _  x6 x8 _ h) (va_cwS 2 hts gX3_fillSteps_X1_indexOf rfl rfl rfl (by decide +kernel) ⟨Nat.le_of_ble_eq_true rfl, Nat.le_of_ble_eq_true rfl⟩) rfl rfl (Nat.le_of_ble_eq_true rfl) dX3_fillSteps_124 ⟨Nat.le_of_ble_eq_true rfl, Nat.le_of_ble_eq_true rfl⟩) C0 hP hD hS [] [0, 1, 2, 3, 4, 5, 6, 7] (by decide) rfl rfl rfl (by decide) (by decide) (fun r13 u H locs h hP hD hS => ?_)
            have hP : va_P g.1 vwCl [(a_th, .inr (3, [.ref a_pr, .ref a_tw, .ref a_tr, .ref a_ke, .int sl])), (a_tw, .inl (xcI g, 60, .inl f_tw)), (a_tr, .inl (xcI g, 180, .inl f_tr)), (a_ke, .inl (xcI g, kn, .inl f_ke)), (a_pr, .inr (1, [.ref a_lo, .ref a_hi, .ref a_st])), (a_lo, .inl (xcI g, 15, .inl f_lo)), (a_hi, .inl (xcI g, 15, .inl f_hi)), (a_st, .inl (xcI g, 6, .inl f_st))] H := hP
            have hD : va_D A [(a_th, .inr (3, [.ref a_pr, .ref a_tw, .ref a_tr, .ref a_ke, .int sl])), (a_tw, .inl (xcI g, 60, .inl f_tw)), (a_tr, .inl (xcI g, 180, .inl f_tr)), (a_ke, .inl (xcI g, kn, .inl f_ke)), (a_pr, .inr (1, [.ref a_lo, .ref a_hi, .ref a_st])), (a_lo, .inl (xcI g, 15, .inl f_lo)), (a_hi, .inl (xcI g, 15, .inl f_hi)), (a_st, .inl (xcI g, 6, .inl f_st))] := hD
            refine lv_ishl hx hb dX3_fillSteps_127 ?_
            refine lv_ior hx hb dX3_fillSteps_128 ?_
            refine lv_iconst (v := 1) hx hb dX3_fillSteps_129 (by decide) ?_
            refine lv_iload hx hb dX3_fillSteps_130 (lv_at hl 7 rfl) ?_
            refine lv_iload_n hx hb dX3_fillSteps_132 rfl (lv_at hl 2 rfl) ?_
            refine xi (wr := [(a_th, .inr (3, [.ref a_pr, .ref a_tw, .ref a_tr, .ref a_ke, .int sl])), (a_tw, .inl (xcI g, 60, .inl f_tw)), (a_tr, .inl (xcI g, 180, .inl f_tr)), (a_ke, .inl (xcI g, kn, .inl f_ke)), (a_pr, .inr (1, [.ref a_lo, .ref a_hi, .ref a_st])), (a_lo, .inl (xcI g, 15, .inl f_lo)), (a_hi, .inl (xcI g, 15, .inl f_hi)), (a_st, .inl (xcI g, 6, .inl f_st))]) (xrS (As := [.int x8, .int x3]) (rest := [.int (1 : Int32), .int (x7 ||| ((1 : Int32) <<< (r13 &&& 31))), .int x5, .ref a_tr]) C0 hl.1 (c_X1_indexOf l g _  x8 x3 _ h) (va_cwS 2 hts gX3_fillSteps_X1_indexOf rfl rfl rfl (by decide +kernel) ⟨Nat.le_of_ble_eq_true rfl, Nat.le_of_ble_eq_true rfl⟩) rfl rfl (Nat.le_of_ble_eq_true rfl) dX3_fillSteps_133 ⟨Nat.le_of_ble_eq_true rfl, Nat.le_of_ble_eq_true rfl⟩) C0 hP hD hS [] [0, 1, 2, 3, 4, 5, 6, 7] (by decide) rfl rfl rfl (by decide) (by decide) (fun r14 u H locs h hP hD hS => ?_)
            have hP : va_P g.1 vwCl [(a_th, .inr (3, [.ref a_pr, .ref a_tw, .ref a_tr, .ref a_ke, .int sl])), (a_tw, .inl (xcI g, 60, .inl f_tw)), (a_tr, .inl (xcI g, 180, .inl f_tr)), (a_ke, .inl (xcI g, kn, .inl f_ke)), (a_pr, .inr (1, [.ref a_lo, .ref a_hi, .ref a_st])), (a_lo, .inl (xcI g, 15, .inl f_lo)), (a_hi, .inl (xcI g, 15, .inl f_hi)), (a_st, .inl (xcI g, 6, .inl f_st))] H := hP
            have hD : va_D A [(a_th, .inr (3, [.ref a_pr, .ref a_tw, .ref a_tr, .ref a_ke, .int sl])), (a_tw, .inl (xcI g, 60, .inl f_tw)), (a_tr, .inl (xcI g, 180, .inl f_tr)), (a_ke, .inl (xcI g, kn, .inl f_ke)), (a_pr, .inr (1, [.ref a_lo, .ref a_hi, .ref a_st])), (a_lo, .inl (xcI g, 15, .inl f_lo)), (a_hi, .inl (xcI g, 15, .inl f_hi)), (a_st, .inl (xcI g, 6, .inl f_st))] := hD
            refine lv_ishl hx hb dX3_fillSteps_136 ?_
            refine lv_ior hx hb dX3_fillSteps_137 ?_
            obtain ⟨c15, h⟩ := h
            refine va_iast hx hb hK hP hD hS 2 0 rfl rfl c15 dX3_fillSteps_138 (fun H locs hP hD hS => ?_)
            have hP : va_P g.1 vwCl [(a_th, .inr (3, [.ref a_pr, .ref a_tw, .ref a_tr, .ref a_ke, .int sl])), (a_tw, .inl (xcI g, 60, .inl f_tw)), (a_tr, .inl (xcI g, 180, .inl (upd f_tr x5.toNatClampNeg ((x7 ||| ((1 : Int32) <<< (r13 &&& 31))) ||| ((1 : Int32) <<< (r14 &&& 31)))))), (a_ke, .inl (xcI g, kn, .inl f_ke)), (a_pr, .inr (1, [.ref a_lo, .ref a_hi, .ref a_st])), (a_lo, .inl (xcI g, 15, .inl f_lo)), (a_hi, .inl (xcI g, 15, .inl f_hi)), (a_st, .inl (xcI g, 6, .inl f_st))] H := hP
            have hD : va_D A [(a_th, .inr (3, [.ref a_pr, .ref a_tw, .ref a_tr, .ref a_ke, .int sl])), (a_tw, .inl (xcI g, 60, .inl f_tw)), (a_tr, .inl (xcI g, 180, .inl (upd f_tr x5.toNatClampNeg ((x7 ||| ((1 : Int32) <<< (r13 &&& 31))) ||| ((1 : Int32) <<< (r14 &&& 31)))))), (a_ke, .inl (xcI g, kn, .inl f_ke)), (a_pr, .inr (1, [.ref a_lo, .ref a_hi, .ref a_st])), (a_lo, .inl (xcI g, 15, .inl f_lo)), (a_hi, .inl (xcI g, 15, .inl f_hi)), (a_st, .inl (xcI g, 6, .inl f_st))] := hD
            refine lv_iinc (v := (x5 + 1)) (lv' := [(5, .int (x5 + 1)), (0, .ref a_th), (2, .int x2), (3, .int x3), (4, .int x4), (6, .int x6), (7, .int x7), (8, .int x8)]) hx hb dX3_fillSteps_139 hl (k := 4) rfl rfl (by decide) rfl (fun ls hl => ?_)
            exact w_X3_fillSteps_142 C0 a_th a_tw a_tr a_ke a_pr a_lo a_hi a_st sl kn f_ke f_lo f_hi f_st post k32 (b_X3_fillSteps_85 f_lo f_hi post k32 n85) hk32 hk85  x2 x3 x4 (x5 + 1) x6 x7 x8 f_tw (upd f_tr x5.toNatClampNeg ((x7 ||| ((1 : Int32) <<< (r13 &&& 31))) ||| ((1 : Int32) <<< (r14 &&& 31)))) hP hD hS (lv_sub hl [1, 2, 3, 4, 0, 5, 6, 7] rfl) h
set_option maxHeartbeats 1000000 in
set_option maxRecDepth 100000 in
theorem w_X3_fillSteps_32 {p : Program} {l : Launch} {e : Env} {s : State} {m : MethodId} {args : Array Value} {below : List Frame} {meth : Method} {c : Code} {A : Nat → Prop} {g : xG} (C0 : vx g p s m args meth c cX3_fillSteps none 9 yX3_fillSteps wsX3_fillSteps A) (a_th : Nat) (a_tw : Nat) (a_tr : Nat) (a_ke : Nat) (a_pr : Nat) (a_lo : Nat) (a_hi : Nat) (a_st : Nat) (sl : Int32) (kn : Nat) (f_ke : Nat → Int32) (f_lo : Nat → Int32) (f_hi : Nat → Int32) (f_st : Nat → Int32) (post : (Nat → Int32) → (Nat → Int32) → Prop) : ∀ (n : Nat) (x2 : Int32) (x3 : Int32) (x4 : Int32) (x5 : Int32) (x6 : Int32) (f_tw : Nat → Int32) (f_tr : Nat → Int32) {H : Heap} {locs : List Loc} {ls : Array Slot}, va_P g.1 vwCl [(a_th, .inr (3, [.ref a_pr, .ref a_tw, .ref a_tr, .ref a_ke, .int sl])), (a_tw, .inl (xcI g, 60, .inl f_tw)), (a_tr, .inl (xcI g, 180, .inl f_tr)), (a_ke, .inl (xcI g, kn, .inl f_ke)), (a_pr, .inr (1, [.ref a_lo, .ref a_hi, .ref a_st])), (a_lo, .inl (xcI g, 15, .inl f_lo)), (a_hi, .inl (xcI g, 15, .inl f_hi)), (a_st, .inl (xcI g, 6, .inl f_st))] H → va_D A [(a_th, .inr (3, [.ref a_pr, .ref a_tw, .ref a_tr, .ref a_ke, .int sl])), (a_tw, .inl (xcI g, 60, .inl f_tw)), (a_tr, .inl (xcI g, 180, .inl f_tr)), (a_ke, .inl (xcI g, kn, .inl f_ke)), (a_pr, .inr (1, [.ref a_lo, .ref a_hi, .ref a_st])), (a_lo, .inl (xcI g, 15, .inl f_lo)), (a_hi, .inl (xcI g, 15, .inl f_hi)), (a_st, .inl (xcI g, 6, .inl f_st))] → va_S A s.heap H locs → lv_has ls 9 [(0, .ref a_th), (2, .int x2), (3, .int x3), (4, .int x4), (5, .int x5), (6, .int x6)] → b_X3_fillSteps_32 f_lo f_hi post  n x2 x3 x4 x5 x6 f_tw f_tr → W p l e ({ frames := 2, cells := 0, slots := 0, locals := 41 } : Room) s m args below meth c H locs 0 0 (MQ below ((q_X3_fillSteps g a_th a_tw a_tr a_ke a_pr a_lo a_hi a_st sl kn f_ke f_lo f_hi f_st post) A) args s 0 0 A) (F0 m 32 ls []) := by
  obtain ⟨hx, hb, hr, hml, hown, hin, hts, hlocks, hA, hK, hZ⟩ := id C0
  have hown : s.vm.findClass RX3 = some m.cls := hown
  intro n
  induction n with
  | zero =>
    intro  x2 x3 x4 x5 x6 f_tw f_tr H locs ls hP hD hS hl h
    exact False.elim h
  | succ n32 hk32 =>
    intro  x2 x3 x4 x5 x6 f_tw f_tr H locs ls hP hD hS hl h
    unfold b_X3_fillSteps_32 at h
    refine lv_iload hx hb dX3_fillSteps_32 (lv_at hl 5 rfl) ?_
    refine lv_bipush (v := 6) hx hb dX3_fillSteps_34 (by decide) ?_
    refine lv_icmp_ge (tgt := 154) hx hb dX3_fillSteps_36 (by decide) (fun c3 => ?_) (fun c3 => ?_)
    · have h := h.1 c3
      exact xretv (f_tw, f_tr) C0 hP hD hS h dX3_fillSteps_154
    · have h := h.2 c3
      refine lv_iload hx hb dX3_fillSteps_39 (lv_at hl 5 rfl) ?_
      refine lv_iload_n hx hb dX3_fillSteps_41 rfl (lv_at hl 1 rfl) ?_
      refine lv_icmp_eq (tgt := 148) hx hb dX3_fillSteps_42 (by decide) (fun c4 => ?_) (fun c4 => ?_)
      · have h := h.1 c4
        exact w_X3_fillSteps_148 C0 a_th a_tw a_tr a_ke a_pr a_lo a_hi a_st sl kn f_ke f_lo f_hi f_st post (b_X3_fillSteps_32 f_lo f_hi post  n32) hk32  x2 x3 x4 x5 x6 f_tw f_tr hP hD hS (lv_sub hl [0, 1, 2, 3, 4, 5] rfl) h
      · have h := h.2 c4
        refine lv_iload hx hb dX3_fillSteps_45 (lv_at hl 5 rfl) ?_
        refine lv_iload_n hx hb dX3_fillSteps_47 rfl (lv_at hl 2 rfl) ?_
        refine lv_icmp_eq (tgt := 148) hx hb dX3_fillSteps_48 (by decide) (fun c5 => ?_) (fun c5 => ?_)
        · have h := h.1 c5
          exact w_X3_fillSteps_148 C0 a_th a_tw a_tr a_ke a_pr a_lo a_hi a_st sl kn f_ke f_lo f_hi f_st post (b_X3_fillSteps_32 f_lo f_hi post  n32) hk32  x2 x3 x4 x5 x6 f_tw f_tr hP hD hS (lv_sub hl [0, 1, 2, 3, 4, 5] rfl) h
        · have h := h.2 c5
          refine lv_iconst (v := 1) hx hb dX3_fillSteps_51 (by decide) ?_
          refine lv_iload_n hx hb dX3_fillSteps_52 rfl (lv_at hl 1 rfl) ?_
          refine lv_iload hx hb dX3_fillSteps_53 (lv_at hl 5 rfl) ?_
          refine xi (wr := [(a_th, .inr (3, [.ref a_pr, .ref a_tw, .ref a_tr, .ref a_ke, .int sl])), (a_tw, .inl (xcI g, 60, .inl f_tw)), (a_tr, .inl (xcI g, 180, .inl f_tr)), (a_ke, .inl (xcI g, kn, .inl f_ke)), (a_pr, .inr (1, [.ref a_lo, .ref a_hi, .ref a_st])), (a_lo, .inl (xcI g, 15, .inl f_lo)), (a_hi, .inl (xcI g, 15, .inl f_hi)), (a_st, .inl (xcI g, 6, .inl f_st))]) (xrS (As := [.int x2, .int x6]) (rest := [.int (1 : Int32)]) C0 hl.1 (c_X1_indexOf l g _  x2 x6 _ h) (va_cwS 2 hts gX3_fillSteps_X1_indexOf rfl rfl rfl (by decide +kernel) ⟨Nat.le_of_ble_eq_true rfl, Nat.le_of_ble_eq_true rfl⟩) rfl rfl (Nat.le_of_ble_eq_true rfl) dX3_fillSteps_55 ⟨Nat.le_of_ble_eq_true rfl, Nat.le_of_ble_eq_true rfl⟩) C0 hP hD hS [] [0, 1, 2, 3, 4, 5, 6, 7] (by decide) rfl rfl rfl (by decide) (by decide) (fun r6 u H locs h hP hD hS => ?_)
          have hP : va_P g.1 vwCl [(a_th, .inr (3, [.ref a_pr, .ref a_tw, .ref a_tr, .ref a_ke, .int sl])), (a_tw, .inl (xcI g, 60, .inl f_tw)), (a_tr, .inl (xcI g, 180, .inl f_tr)), (a_ke, .inl (xcI g, kn, .inl f_ke)), (a_pr, .inr (1, [.ref a_lo, .ref a_hi, .ref a_st])), (a_lo, .inl (xcI g, 15, .inl f_lo)), (a_hi, .inl (xcI g, 15, .inl f_hi)), (a_st, .inl (xcI g, 6, .inl f_st))] H := hP
          have hD : va_D A [(a_th, .inr (3, [.ref a_pr, .ref a_tw, .ref a_tr, .ref a_ke, .int sl])), (a_tw, .inl (xcI g, 60, .inl f_tw)), (a_tr, .inl (xcI g, 180, .inl f_tr)), (a_ke, .inl (xcI g, kn, .inl f_ke)), (a_pr, .inr (1, [.ref a_lo, .ref a_hi, .ref a_st])), (a_lo, .inl (xcI g, 15, .inl f_lo)), (a_hi, .inl (xcI g, 15, .inl f_hi)), (a_st, .inl (xcI g, 6, .inl f_st))] := hD
          refine lv_ishl hx hb dX3_fillSteps_58 ?_
          refine lv_istore (lv' := [(7, .int ((1 : Int32) <<< (r6 &&& 31))), (0, .ref a_th), (2, .int x2), (3, .int x3), (4, .int x4), (5, .int x5), (6, .int x6)]) hx hb dX3_fillSteps_59 hl (by decide) rfl (fun ls hl => ?_)
          refine lv_aload_n hx hb dX3_fillSteps_61 rfl (lv_at hl 1 rfl) ?_
          refine va_get (D := g.1) (ci := 3) (v := .ref a_tw) (C := RX3) (T := TX3) (N := 5) hx hb hts in_X3_fillSteps_X3 hown hK hP 0 rfl rfl 1 (by decide) (hts (.fieldLink RX3 15 "RandomModels$Things" "twoSteps" "[I") (by decide +kernel)) (fun _ h9 => h9) rfl dX3_fillSteps_62 ?_
          refine lv_iload hx hb dX3_fillSteps_65 (lv_at hl 4 rfl) ?_
          refine lv_iload hx hb dX3_fillSteps_67 (lv_at hl 0 rfl) ?_
          refine lv_iconst (v := 1) hx hb dX3_fillSteps_69 (by decide) ?_
          refine lv_iload hx hb dX3_fillSteps_70 (lv_at hl 6 rfl) ?_
          refine lv_iload_n hx hb dX3_fillSteps_72 rfl (lv_at hl 3 rfl) ?_
          refine xi (wr := [(a_th, .inr (3, [.ref a_pr, .ref a_tw, .ref a_tr, .ref a_ke, .int sl])), (a_tw, .inl (xcI g, 60, .inl f_tw)), (a_tr, .inl (xcI g, 180, .inl f_tr)), (a_ke, .inl (xcI g, kn, .inl f_ke)), (a_pr, .inr (1, [.ref a_lo, .ref a_hi, .ref a_st])), (a_lo, .inl (xcI g, 15, .inl f_lo)), (a_hi, .inl (xcI g, 15, .inl f_hi)), (a_st, .inl (xcI g, 6, .inl f_st))]) (xrS (As := [.int x6, .int x3]) (rest := [.int (1 : Int32), .int ((1 : Int32) <<< (r6 &&& 31)), .int x4, .ref a_tw]) C0 hl.1 (c_X1_indexOf l g _  x6 x3 _ h) (va_cwS 2 hts gX3_fillSteps_X1_indexOf rfl rfl rfl (by decide +kernel) ⟨Nat.le_of_ble_eq_true rfl, Nat.le_of_ble_eq_true rfl⟩) rfl rfl (Nat.le_of_ble_eq_true rfl) dX3_fillSteps_73 ⟨Nat.le_of_ble_eq_true rfl, Nat.le_of_ble_eq_true rfl⟩) C0 hP hD hS [] [0, 1, 2, 3, 4, 5, 6, 7] (by decide) rfl rfl rfl (by decide) (by decide) (fun r7 u H locs h hP hD hS => ?_)
          have hP : va_P g.1 vwCl [(a_th, .inr (3, [.ref a_pr, .ref a_tw, .ref a_tr, .ref a_ke, .int sl])), (a_tw, .inl (xcI g, 60, .inl f_tw)), (a_tr, .inl (xcI g, 180, .inl f_tr)), (a_ke, .inl (xcI g, kn, .inl f_ke)), (a_pr, .inr (1, [.ref a_lo, .ref a_hi, .ref a_st])), (a_lo, .inl (xcI g, 15, .inl f_lo)), (a_hi, .inl (xcI g, 15, .inl f_hi)), (a_st, .inl (xcI g, 6, .inl f_st))] H := hP
          have hD : va_D A [(a_th, .inr (3, [.ref a_pr, .ref a_tw, .ref a_tr, .ref a_ke, .int sl])), (a_tw, .inl (xcI g, 60, .inl f_tw)), (a_tr, .inl (xcI g, 180, .inl f_tr)), (a_ke, .inl (xcI g, kn, .inl f_ke)), (a_pr, .inr (1, [.ref a_lo, .ref a_hi, .ref a_st])), (a_lo, .inl (xcI g, 15, .inl f_lo)), (a_hi, .inl (xcI g, 15, .inl f_hi)), (a_st, .inl (xcI g, 6, .inl f_st))] := hD
          refine lv_ishl hx hb dX3_fillSteps_76 ?_
          refine lv_ior hx hb dX3_fillSteps_77 ?_
          obtain ⟨c8, h⟩ := h
          refine va_iast hx hb hK hP hD hS 1 0 rfl rfl c8 dX3_fillSteps_78 (fun H locs hP hD hS => ?_)
          have hP : va_P g.1 vwCl [(a_th, .inr (3, [.ref a_pr, .ref a_tw, .ref a_tr, .ref a_ke, .int sl])), (a_tw, .inl (xcI g, 60, .inl (upd f_tw x4.toNatClampNeg (((1 : Int32) <<< (r6 &&& 31)) ||| ((1 : Int32) <<< (r7 &&& 31)))))), (a_tr, .inl (xcI g, 180, .inl f_tr)), (a_ke, .inl (xcI g, kn, .inl f_ke)), (a_pr, .inr (1, [.ref a_lo, .ref a_hi, .ref a_st])), (a_lo, .inl (xcI g, 15, .inl f_lo)), (a_hi, .inl (xcI g, 15, .inl f_hi)), (a_st, .inl (xcI g, 6, .inl f_st))] H := hP
          have hD : va_D A [(a_th, .inr (3, [.ref a_pr, .ref a_tw, .ref a_tr, .ref a_ke, .int sl])), (a_tw, .inl (xcI g, 60, .inl (upd f_tw x4.toNatClampNeg (((1 : Int32) <<< (r6 &&& 31)) ||| ((1 : Int32) <<< (r7 &&& 31)))))), (a_tr, .inl (xcI g, 180, .inl f_tr)), (a_ke, .inl (xcI g, kn, .inl f_ke)), (a_pr, .inr (1, [.ref a_lo, .ref a_hi, .ref a_st])), (a_lo, .inl (xcI g, 15, .inl f_lo)), (a_hi, .inl (xcI g, 15, .inl f_hi)), (a_st, .inl (xcI g, 6, .inl f_st))] := hD
          refine lv_iinc (v := (x4 + 1)) (lv' := [(4, .int (x4 + 1)), (7, .int ((1 : Int32) <<< (r6 &&& 31))), (0, .ref a_th), (2, .int x2), (3, .int x3), (5, .int x5), (6, .int x6)]) hx hb dX3_fillSteps_79 hl (k := 4) rfl rfl (by decide) rfl (fun ls hl => ?_)
          refine lv_iconst (v := 0) hx hb dX3_fillSteps_82 (by decide) ?_
          refine lv_istore (lv' := [(8, .int (0 : Int32)), (4, .int (x4 + 1)), (7, .int ((1 : Int32) <<< (r6 &&& 31))), (0, .ref a_th), (2, .int x2), (3, .int x3), (5, .int x5), (6, .int x6)]) hx hb dX3_fillSteps_83 hl (by decide) rfl (fun ls hl => ?_)
          obtain ⟨n, h⟩ := h
          exact w_X3_fillSteps_85 C0 a_th a_tw a_tr a_ke a_pr a_lo a_hi a_st sl kn f_ke f_lo f_hi f_st post (b_X3_fillSteps_32 f_lo f_hi post  n32) hk32 n  x2 x3 (x4 + 1) x5 x6 ((1 : Int32) <<< (r6 &&& 31)) (0 : Int32) (upd f_tw x4.toNatClampNeg (((1 : Int32) <<< (r6 &&& 31)) ||| ((1 : Int32) <<< (r7 &&& 31)))) f_tr hP hD hS (lv_sub hl [3, 4, 5, 1, 6, 7, 2, 0] rfl) h
set_option maxHeartbeats 1000000 in
set_option maxRecDepth 100000 in
theorem c_X3_fillSteps (l : Launch) (g : xG) (sz : Nat) (a_th : Nat) (a_tw : Nat) (a_tr : Nat) (a_ke : Nat) (a_pr : Nat) (a_lo : Nat) (a_hi : Nat) (a_st : Nat) (p_p : Int32) (sl : Int32) (kn : Nat) (f_ke : Nat → Int32) (f_lo : Nat → Int32) (f_hi : Nat → Int32) (f_st : Nat → Int32) (f_tw : Nat → Int32) (f_tr : Nat → Int32) (post : (Nat → Int32) → (Nat → Int32) → Prop) (h : wp_X3_fillSteps p_p f_lo f_hi f_tw f_tr post) : xM l yX3_fillSteps wsX3_fillSteps ({ frames := 2, cells := 0, slots := 0, locals := 41 } : Room) g sz [(a_th, .inr (3, [.ref a_pr, .ref a_tw, .ref a_tr, .ref a_ke, .int sl])), (a_tw, .inl (xcI g, 60, .inl f_tw)), (a_tr, .inl (xcI g, 180, .inl f_tr)), (a_ke, .inl (xcI g, kn, .inl f_ke)), (a_pr, .inr (1, [.ref a_lo, .ref a_hi, .ref a_st])), (a_lo, .inl (xcI g, 15, .inl f_lo)), (a_hi, .inl (xcI g, 15, .inl f_hi)), (a_st, .inl (xcI g, 6, .inl f_st))] [.ref a_th, .int p_p] (q_X3_fillSteps g a_th a_tw a_tr a_ke a_pr a_lo a_hi a_st sl kn f_ke f_lo f_hi f_st post) 0 0 := by
  refine xmet (cc := cX3_fillSteps) (maxL := 9) (ret := none) (by decide) rfl (Nat.le_of_ble_eq_true rfl) ?_
  intro p e s m args below meth c A ls H locs C0 hP hD hS hl
  obtain ⟨hx, hb, hr, hml, hown, hin, hts, hlocks, hA, hK, hZ⟩ := id C0
  have hown : s.vm.findClass RX3 = some m.cls := hown
  have hl : lv_has ls 9 [(0, .ref a_th), (1, .int p_p)] := hl
  unfold wp_X3_fillSteps at h
  refine lv_aload_n hx hb dX3_fillSteps_0 rfl (lv_at hl 0 rfl) ?_
  refine va_get (D := g.1) (ci := 3) (v := .ref a_pr) (C := RX3) (T := TX3) (N := 5) hx hb hts in_X3_fillSteps_X3 hown hK hP 0 rfl rfl 0 (by decide) (hts (.fieldLink RX3 9 "RandomModels$Things" "pairs" "LRandomModels$Pairs;") (by decide +kernel)) (fun _ h9 => h9) rfl dX3_fillSteps_1 ?_
  refine lv_iload_n hx hb dX3_fillSteps_4 rfl (lv_at hl 1 rfl) ?_
  refine xi (wr := [(a_th, .inr (3, [.ref a_pr, .ref a_tw, .ref a_tr, .ref a_ke, .int sl])), (a_tw, .inl (xcI g, 60, .inl f_tw)), (a_tr, .inl (xcI g, 180, .inl f_tr)), (a_ke, .inl (xcI g, kn, .inl f_ke))]) (xrV (As := [.int p_p]) (rest := []) C0 hl.1 (c_X1_low l g _ a_pr a_lo a_hi a_st p_p f_lo f_hi f_st _ h) (cwV 1 hts gX3_fillSteps_X1_low rfl rfl rfl (by decide +kernel) ⟨Nat.le_of_ble_eq_true rfl, Nat.le_of_ble_eq_true rfl⟩) 0 1 rfl rfl rfl rfl rfl (Nat.le_of_ble_eq_true rfl) dX3_fillSteps_5 ⟨Nat.le_of_ble_eq_true rfl, Nat.le_of_ble_eq_true rfl⟩) C0 hP hD hS [4, 5, 6, 7] [0, 1, 2, 3] (by decide) rfl rfl rfl (by decide) (by decide) (fun r1 u H locs h hP hD hS => ?_)
  have hP : va_P g.1 vwCl [(a_th, .inr (3, [.ref a_pr, .ref a_tw, .ref a_tr, .ref a_ke, .int sl])), (a_tw, .inl (xcI g, 60, .inl f_tw)), (a_tr, .inl (xcI g, 180, .inl f_tr)), (a_ke, .inl (xcI g, kn, .inl f_ke)), (a_pr, .inr (1, [.ref a_lo, .ref a_hi, .ref a_st])), (a_lo, .inl (xcI g, 15, .inl f_lo)), (a_hi, .inl (xcI g, 15, .inl f_hi)), (a_st, .inl (xcI g, 6, .inl f_st))] H := hP
  have hD : va_D A [(a_th, .inr (3, [.ref a_pr, .ref a_tw, .ref a_tr, .ref a_ke, .int sl])), (a_tw, .inl (xcI g, 60, .inl f_tw)), (a_tr, .inl (xcI g, 180, .inl f_tr)), (a_ke, .inl (xcI g, kn, .inl f_ke)), (a_pr, .inr (1, [.ref a_lo, .ref a_hi, .ref a_st])), (a_lo, .inl (xcI g, 15, .inl f_lo)), (a_hi, .inl (xcI g, 15, .inl f_hi)), (a_st, .inl (xcI g, 6, .inl f_st))] := hD
  refine lv_istore_n (lv' := [(2, .int r1), (0, .ref a_th), (1, .int p_p)]) hx hb dX3_fillSteps_8 rfl hl (by decide) rfl (fun ls hl => ?_)
  refine lv_aload_n hx hb dX3_fillSteps_9 rfl (lv_at hl 1 rfl) ?_
  refine va_get (D := g.1) (ci := 3) (v := .ref a_pr) (C := RX3) (T := TX3) (N := 5) hx hb hts in_X3_fillSteps_X3 hown hK hP 0 rfl rfl 0 (by decide) (hts (.fieldLink RX3 9 "RandomModels$Things" "pairs" "LRandomModels$Pairs;") (by decide +kernel)) (fun _ h9 => h9) rfl dX3_fillSteps_10 ?_
  refine lv_iload_n hx hb dX3_fillSteps_13 rfl (lv_at hl 2 rfl) ?_
  refine xi (wr := [(a_th, .inr (3, [.ref a_pr, .ref a_tw, .ref a_tr, .ref a_ke, .int sl])), (a_tw, .inl (xcI g, 60, .inl f_tw)), (a_tr, .inl (xcI g, 180, .inl f_tr)), (a_ke, .inl (xcI g, kn, .inl f_ke))]) (xrV (As := [.int p_p]) (rest := []) C0 hl.1 (c_X1_high l g _ a_pr a_lo a_hi a_st p_p f_lo f_hi f_st _ h) (cwV 1 hts gX3_fillSteps_X1_high rfl rfl rfl (by decide +kernel) ⟨Nat.le_of_ble_eq_true rfl, Nat.le_of_ble_eq_true rfl⟩) 0 1 rfl rfl rfl rfl rfl (Nat.le_of_ble_eq_true rfl) dX3_fillSteps_14 ⟨Nat.le_of_ble_eq_true rfl, Nat.le_of_ble_eq_true rfl⟩) C0 hP hD hS [4, 5, 6, 7] [0, 1, 2, 3] (by decide) rfl rfl rfl (by decide) (by decide) (fun r2 u H locs h hP hD hS => ?_)
  have hP : va_P g.1 vwCl [(a_th, .inr (3, [.ref a_pr, .ref a_tw, .ref a_tr, .ref a_ke, .int sl])), (a_tw, .inl (xcI g, 60, .inl f_tw)), (a_tr, .inl (xcI g, 180, .inl f_tr)), (a_ke, .inl (xcI g, kn, .inl f_ke)), (a_pr, .inr (1, [.ref a_lo, .ref a_hi, .ref a_st])), (a_lo, .inl (xcI g, 15, .inl f_lo)), (a_hi, .inl (xcI g, 15, .inl f_hi)), (a_st, .inl (xcI g, 6, .inl f_st))] H := hP
  have hD : va_D A [(a_th, .inr (3, [.ref a_pr, .ref a_tw, .ref a_tr, .ref a_ke, .int sl])), (a_tw, .inl (xcI g, 60, .inl f_tw)), (a_tr, .inl (xcI g, 180, .inl f_tr)), (a_ke, .inl (xcI g, kn, .inl f_ke)), (a_pr, .inr (1, [.ref a_lo, .ref a_hi, .ref a_st])), (a_lo, .inl (xcI g, 15, .inl f_lo)), (a_hi, .inl (xcI g, 15, .inl f_hi)), (a_st, .inl (xcI g, 6, .inl f_st))] := hD
  refine lv_istore_n (lv' := [(3, .int r2), (2, .int r1), (0, .ref a_th), (1, .int p_p)]) hx hb dX3_fillSteps_17 rfl hl (by decide) rfl (fun ls hl => ?_)
  refine lv_iload_n hx hb dX3_fillSteps_18 rfl (lv_at hl 3 rfl) ?_
  refine lv_iconst (v := 4) hx hb dX3_fillSteps_19 (by decide) ?_
  refine lv_imul hx hb dX3_fillSteps_20 ?_
  refine lv_istore (lv' := [(4, .int (p_p * (4 : Int32))), (3, .int r2), (2, .int r1), (0, .ref a_th), (1, .int p_p)]) hx hb dX3_fillSteps_21 hl (by decide) rfl (fun ls hl => ?_)
  refine lv_iload_n hx hb dX3_fillSteps_23 rfl (lv_at hl 4 rfl) ?_
  refine lv_bipush (v := 12) hx hb dX3_fillSteps_24 (by decide) ?_
  refine lv_imul hx hb dX3_fillSteps_26 ?_
  refine lv_istore (lv' := [(5, .int (p_p * (12 : Int32))), (4, .int (p_p * (4 : Int32))), (3, .int r2), (2, .int r1), (0, .ref a_th), (1, .int p_p)]) hx hb dX3_fillSteps_27 hl (by decide) rfl (fun ls hl => ?_)
  refine lv_iconst (v := 0) hx hb dX3_fillSteps_29 (by decide) ?_
  refine lv_istore (lv' := [(6, .int (0 : Int32)), (5, .int (p_p * (12 : Int32))), (4, .int (p_p * (4 : Int32))), (3, .int r2), (2, .int r1), (0, .ref a_th), (1, .int p_p)]) hx hb dX3_fillSteps_30 hl (by decide) rfl (fun ls hl => ?_)
  obtain ⟨n, h⟩ := h
  exact w_X3_fillSteps_32 C0 a_th a_tw a_tr a_ke a_pr a_lo a_hi a_st sl kn f_ke f_lo f_hi f_st post   n  r1 r2 (p_p * (4 : Int32)) (p_p * (12 : Int32)) (0 : Int32) f_tw f_tr hP hD hS (lv_sub hl [5, 4, 3, 2, 1, 0] rfl) h

def b_X3_init_42 (f_lo : Nat → Int32) (f_hi : Nat → Int32) (post : (Nat → Int32) → (Nat → Int32) → (Nat) → (Nat → Int32) → (Int32) → Prop) : Nat → (Int32) → (Nat → Int32) → (Nat → Int32) → (Nat) → (Nat → Int32) → (Int32) → Prop
  | 0 => fun x2 f_tw f_tr kn f_ke sl => False
  | n42 + 1 => fun x2 f_tw f_tr kn f_ke sl => (((15 : Int32) ≤ x2 → post f_tw f_tr kn f_ke sl) ∧ (¬ (15 : Int32) ≤ x2 → wp_X3_fillSteps x2 f_lo f_hi f_tw f_tr (fun f_tw_9 f_tr_10 => (b_X3_init_42 f_lo f_hi post  n42) (x2 + 1) f_tw_9 f_tr_10 kn f_ke sl)))
def wp_X3_init (f_lo : Nat → Int32) (f_hi : Nat → Int32) (post : (Nat → Int32) → (Nat → Int32) → (Nat) → (Nat → Int32) → (Int32) → Prop) : Prop := ∃ n : Nat, b_X3_init_42 f_lo f_hi post  n (0 : Int32) (fun _ => (0 : Int32)) (fun _ => (0 : Int32)) 1 (fun _ => (0 : Int32)) (32767 : Int32)
abbrev q_X3_init (g : xG) (a_th : Nat) (a_pr : Nat) (a_lo : Nat) (a_hi : Nat) (a_st : Nat) (f_lo : Nat → Int32) (f_hi : Nat → Int32) (f_st : Nat → Int32) (post : (Nat → Int32) → (Nat → Int32) → (Nat) → (Nat → Int32) → (Int32) → Prop) : (Nat → Prop) → Array Value → State → Outcome → State → Prop := xQv g (fun (u : (Nat) × (Nat) × (Nat) × (Nat → Int32) × (Nat → Int32) × (Nat) × (Nat → Int32) × (Int32)) => match u with | (a_tw, a_tr, a_ke, f_tw, f_tr, kn, f_ke, sl) => post f_tw f_tr kn f_ke sl) (fun (u : (Nat) × (Nat) × (Nat) × (Nat → Int32) × (Nat → Int32) × (Nat) × (Nat → Int32) × (Int32)) => match u with | (a_tw, a_tr, a_ke, f_tw, f_tr, kn, f_ke, sl) => [(a_th, .inr (3, [.ref a_pr, .ref a_tw, .ref a_tr, .ref a_ke, .int sl])), (a_tw, .inl (xcI g, 60, .inl f_tw)), (a_tr, .inl (xcI g, 180, .inl f_tr)), (a_ke, .inl (xcI g, kn, .inl f_ke)), (a_pr, .inr (1, [.ref a_lo, .ref a_hi, .ref a_st])), (a_lo, .inl (xcI g, 15, .inl f_lo)), (a_hi, .inl (xcI g, 15, .inl f_hi)), (a_st, .inl (xcI g, 6, .inl f_st))])
theorem in_X3_init_X3 : ∀ w ∈ u_ws RX3 TX3 5, w ∈ wsX3_init := by decide +kernel
set_option maxHeartbeats 1000000 in
set_option maxRecDepth 100000 in
theorem w_X3_init_42 {p : Program} {l : Launch} {e : Env} {s : State} {m : MethodId} {args : Array Value} {below : List Frame} {meth : Method} {c : Code} {A : Nat → Prop} {g : xG} (C0 : vx g p s m args meth c cX3_init none 3 yX3_init wsX3_init A) (a_th : Nat) (a_pr : Nat) (a_lo : Nat) (a_hi : Nat) (a_st : Nat) (f_lo : Nat → Int32) (f_hi : Nat → Int32) (f_st : Nat → Int32) (post : (Nat → Int32) → (Nat → Int32) → (Nat) → (Nat → Int32) → (Int32) → Prop) : ∀ (n : Nat) (a_tw : Nat) (a_tr : Nat) (a_ke : Nat) (x2 : Int32) (f_tw : Nat → Int32) (f_tr : Nat → Int32) (kn : Nat) (f_ke : Nat → Int32) (sl : Int32) {H : Heap} {locs : List Loc} {ls : Array Slot}, va_P g.1 vwCl [(a_th, .inr (3, [.ref a_pr, .ref a_tw, .ref a_tr, .ref a_ke, .int sl])), (a_tw, .inl (xcI g, 60, .inl f_tw)), (a_tr, .inl (xcI g, 180, .inl f_tr)), (a_ke, .inl (xcI g, kn, .inl f_ke)), (a_pr, .inr (1, [.ref a_lo, .ref a_hi, .ref a_st])), (a_lo, .inl (xcI g, 15, .inl f_lo)), (a_hi, .inl (xcI g, 15, .inl f_hi)), (a_st, .inl (xcI g, 6, .inl f_st))] H → va_D A [(a_th, .inr (3, [.ref a_pr, .ref a_tw, .ref a_tr, .ref a_ke, .int sl])), (a_tw, .inl (xcI g, 60, .inl f_tw)), (a_tr, .inl (xcI g, 180, .inl f_tr)), (a_ke, .inl (xcI g, kn, .inl f_ke)), (a_pr, .inr (1, [.ref a_lo, .ref a_hi, .ref a_st])), (a_lo, .inl (xcI g, 15, .inl f_lo)), (a_hi, .inl (xcI g, 15, .inl f_hi)), (a_st, .inl (xcI g, 6, .inl f_st))] → va_S A s.heap H locs → lv_has ls 3 [(0, .ref a_th), (2, .int x2)] → b_X3_init_42 f_lo f_hi post  n x2 f_tw f_tr kn f_ke sl → W p l e ({ frames := 3, cells := 3, slots := 241, locals := 69 } : Room) s m args below meth c H locs 3 241 (MQ below ((q_X3_init g a_th a_pr a_lo a_hi a_st f_lo f_hi f_st post) A) args s 3 241 A) (F0 m 42 ls []) := by
  obtain ⟨hx, hb, hr, hml, hown, hin, hts, hlocks, hA, hK, hZ⟩ := id C0
  have hown : s.vm.findClass RX3 = some m.cls := hown
  intro n
  induction n with
  | zero =>
    intro a_tw a_tr a_ke x2 f_tw f_tr kn f_ke sl H locs ls hP hD hS hl h
    exact False.elim h
  | succ n42 hk42 =>
    intro a_tw a_tr a_ke x2 f_tw f_tr kn f_ke sl H locs ls hP hD hS hl h
    unfold b_X3_init_42 at h
    refine lv_iload_n hx hb dX3_init_42 rfl (lv_at hl 1 rfl) ?_
    refine lv_bipush (v := 15) hx hb dX3_init_43 (by decide) ?_
    refine lv_icmp_ge (tgt := 59) hx hb dX3_init_45 (by decide) (fun c7 => ?_) (fun c7 => ?_)
    · have h := h.1 c7
      exact xretv (a_tw, a_tr, a_ke, f_tw, f_tr, kn, f_ke, sl) C0 hP hD hS h dX3_init_59
    · have h := h.2 c7
      refine lv_aload_n hx hb dX3_init_48 rfl (lv_at hl 0 rfl) ?_
      refine lv_iload_n hx hb dX3_init_49 rfl (lv_at hl 1 rfl) ?_
      refine xv (wr := []) (xrV (As := [.int x2]) (rest := []) C0 hl.1 (c_X3_fillSteps l g _ a_th a_tw a_tr a_ke a_pr a_lo a_hi a_st x2 sl kn f_ke f_lo f_hi f_st f_tw f_tr _ h) (cwV 1 hts gX3_init_X3_fillSteps rfl rfl rfl (by decide +kernel) ⟨Nat.le_of_ble_eq_true rfl, Nat.le_of_ble_eq_true rfl⟩) 0 3 rfl rfl rfl rfl rfl (Nat.le_of_ble_eq_true rfl) dX3_init_50 ⟨Nat.le_of_ble_eq_true rfl, Nat.le_of_ble_eq_true rfl⟩) C0 hP hD hS [0, 1, 2, 3, 4, 5, 6, 7] [] (by decide) rfl rfl rfl (by decide) (by decide) (fun u H locs h hP hD hS => ?_)
      obtain ⟨f_tw_9, f_tr_10⟩ := u
      have hP : va_P g.1 vwCl [(a_th, .inr (3, [.ref a_pr, .ref a_tw, .ref a_tr, .ref a_ke, .int sl])), (a_tw, .inl (xcI g, 60, .inl f_tw_9)), (a_tr, .inl (xcI g, 180, .inl f_tr_10)), (a_ke, .inl (xcI g, kn, .inl f_ke)), (a_pr, .inr (1, [.ref a_lo, .ref a_hi, .ref a_st])), (a_lo, .inl (xcI g, 15, .inl f_lo)), (a_hi, .inl (xcI g, 15, .inl f_hi)), (a_st, .inl (xcI g, 6, .inl f_st))] H := hP
      have hD : va_D A [(a_th, .inr (3, [.ref a_pr, .ref a_tw, .ref a_tr, .ref a_ke, .int sl])), (a_tw, .inl (xcI g, 60, .inl f_tw_9)), (a_tr, .inl (xcI g, 180, .inl f_tr_10)), (a_ke, .inl (xcI g, kn, .inl f_ke)), (a_pr, .inr (1, [.ref a_lo, .ref a_hi, .ref a_st])), (a_lo, .inl (xcI g, 15, .inl f_lo)), (a_hi, .inl (xcI g, 15, .inl f_hi)), (a_st, .inl (xcI g, 6, .inl f_st))] := hD
      refine lv_iinc (v := (x2 + 1)) (lv' := [(2, .int (x2 + 1)), (0, .ref a_th)]) hx hb dX3_init_53 hl (k := 1) rfl rfl (by decide) rfl (fun ls hl => ?_)
      refine lv_goto (tgt := 42) hx hb dX3_init_56 (by decide) ?_
      exact hk42 a_tw a_tr a_ke (x2 + 1) f_tw_9 f_tr_10 kn f_ke sl hP hD hS (lv_sub hl [1, 0] rfl) h
set_option maxHeartbeats 1000000 in
set_option maxRecDepth 100000 in
theorem c_X3_init (l : Launch) (g : xG) (sz : Nat) (a_th : Nat) (a_pr : Nat) (a_lo : Nat) (a_hi : Nat) (a_st : Nat) (f_lo : Nat → Int32) (f_hi : Nat → Int32) (f_st : Nat → Int32) (post : (Nat → Int32) → (Nat → Int32) → (Nat) → (Nat → Int32) → (Int32) → Prop) (h : wp_X3_init f_lo f_hi post) : xM l yX3_init wsX3_init ({ frames := 3, cells := 3, slots := 241, locals := 69 } : Room) g sz [(a_th, .inr (3, [.null, .null, .null, .null, .int (0 : Int32)])), (a_pr, .inr (1, [.ref a_lo, .ref a_hi, .ref a_st])), (a_lo, .inl (xcI g, 15, .inl f_lo)), (a_hi, .inl (xcI g, 15, .inl f_hi)), (a_st, .inl (xcI g, 6, .inl f_st))] [.ref a_th, .ref a_pr] (q_X3_init g a_th a_pr a_lo a_hi a_st f_lo f_hi f_st post) 3 241 := by
  refine xmet (cc := cX3_init) (maxL := 3) (ret := none) (by decide) rfl (Nat.le_of_ble_eq_true rfl) ?_
  intro p e s m args below meth c A ls H locs C0 hP hD hS hl
  obtain ⟨hx, hb, hr, hml, hown, hin, hts, hlocks, hA, hK, hZ⟩ := id C0
  have hown : s.vm.findClass RX3 = some m.cls := hown
  have hl : lv_has ls 3 [(0, .ref a_th), (1, .ref a_pr)] := hl
  unfold wp_X3_init at h
  refine lv_aload_n hx hb dX3_init_0 rfl (lv_at hl 0 rfl) ?_
  refine W.objInit hx hb hown (hts (.methodLink RX3 3 objectInit) (by decide +kernel)) (hts (.instanceMethod objectInit) (by decide +kernel)) (hts (.code objectInit ⟨#[0xb1]⟩ 1 none) (by decide +kernel)) rfl (by rw [hml]; exact hl.1) rfl dX3_init_1 (Nat.le_of_ble_eq_true rfl) (Nat.le_of_ble_eq_true rfl) ?_
  refine W.eq (g2 := F0 m 4 ls []) rfl ?_
  refine lv_aload_n hx hb dX3_init_4 rfl (lv_at hl 0 rfl) ?_
  refine lv_aload_n hx hb dX3_init_5 rfl (lv_at hl 1 rfl) ?_
  refine va_putF (D := g.1) (ci := 3) (v := .ref a_pr) (ty := .object "RandomModels$Pairs") (C := RX3) (T := TX3) (N := 5) hx hb hts in_X3_init_X3 tyX3 tyX3_ok nmX3 hown hK hP hD hS 0 rfl rfl 0 (by decide) (hts (.fieldLink RX3 9 "RandomModels$Things" "pairs" "LRandomModels$Pairs;") (by decide +kernel)) (fun _ h9 => h9) rfl hin rfl (by decide +kernel) rfl rfl (Nat.le_of_ble_eq_true rfl) dX3_init_6 (fun H locs hP hD hS => ?_)
  have hP : va_P g.1 vwCl [(a_th, .inr (3, [.ref a_pr, .null, .null, .null, .int (0 : Int32)])), (a_pr, .inr (1, [.ref a_lo, .ref a_hi, .ref a_st])), (a_lo, .inl (xcI g, 15, .inl f_lo)), (a_hi, .inl (xcI g, 15, .inl f_hi)), (a_st, .inl (xcI g, 6, .inl f_st))] H := hP
  have hD : va_D A [(a_th, .inr (3, [.ref a_pr, .null, .null, .null, .int (0 : Int32)])), (a_pr, .inr (1, [.ref a_lo, .ref a_hi, .ref a_st])), (a_lo, .inl (xcI g, 15, .inl f_lo)), (a_hi, .inl (xcI g, 15, .inl f_hi)), (a_st, .inl (xcI g, 6, .inl f_st))] := hD
  refine lv_aload_n hx hb dX3_init_9 rfl (lv_at hl 0 rfl) ?_
  refine lv_bipush (v := 60) hx hb dX3_init_10 (by decide) ?_
  refine va_newa (atype := .int) (ty := .int) (n := (60 : Int32)) (N' := 60) (a0 := (60, (.inl (fun _ => 0)))) hx hb (hts (.arrayClass .int) (by decide +kernel)) rfl hK hP hD hS hA (fun _ => rfl) (by decide +kernel) (by decide +kernel) (by decide +kernel) (by decide +kernel) (by decide +kernel) dX3_init_12 (fun q1 cA H hKn hP hD hS => ?_)
  obtain rfl := xarr (k := 0) (fun _ q9 => by cases q9) hKn rfl
  have hP : va_P g.1 vwCl [(a_th, .inr (3, [.ref a_pr, .null, .null, .null, .int (0 : Int32)])), (a_pr, .inr (1, [.ref a_lo, .ref a_hi, .ref a_st])), (a_lo, .inl (xcI g, 15, .inl f_lo)), (a_hi, .inl (xcI g, 15, .inl f_hi)), (a_st, .inl (xcI g, 6, .inl f_st)), (q1, .inl (xcI g, 60, .inl (fun _ => (0 : Int32))))] H := hP
  have hD : va_D A [(a_th, .inr (3, [.ref a_pr, .null, .null, .null, .int (0 : Int32)])), (a_pr, .inr (1, [.ref a_lo, .ref a_hi, .ref a_st])), (a_lo, .inl (xcI g, 15, .inl f_lo)), (a_hi, .inl (xcI g, 15, .inl f_hi)), (a_st, .inl (xcI g, 6, .inl f_st)), (q1, .inl (xcI g, 60, .inl (fun _ => (0 : Int32))))] := hD
  refine W.widen (k := 1) (n := 60) (by decide) (by decide) ?_
  refine va_putF (D := g.1) (ci := 3) (v := .ref q1) (ty := .array .int) (C := RX3) (T := TX3) (N := 5) hx hb hts in_X3_init_X3 tyX3 tyX3_ok nmX3 hown hK hP hD hS 0 rfl rfl 1 (by decide) (hts (.fieldLink RX3 15 "RandomModels$Things" "twoSteps" "[I") (by decide +kernel)) (fun _ h9 => h9) rfl hin rfl (by decide +kernel) rfl rfl (Nat.le_of_ble_eq_true rfl) dX3_init_14 (fun H locs hP hD hS => ?_)
  have hP : va_P g.1 vwCl [(a_th, .inr (3, [.ref a_pr, .ref q1, .null, .null, .int (0 : Int32)])), (a_pr, .inr (1, [.ref a_lo, .ref a_hi, .ref a_st])), (a_lo, .inl (xcI g, 15, .inl f_lo)), (a_hi, .inl (xcI g, 15, .inl f_hi)), (a_st, .inl (xcI g, 6, .inl f_st)), (q1, .inl (xcI g, 60, .inl (fun _ => (0 : Int32))))] H := hP
  have hD : va_D A [(a_th, .inr (3, [.ref a_pr, .ref q1, .null, .null, .int (0 : Int32)])), (a_pr, .inr (1, [.ref a_lo, .ref a_hi, .ref a_st])), (a_lo, .inl (xcI g, 15, .inl f_lo)), (a_hi, .inl (xcI g, 15, .inl f_hi)), (a_st, .inl (xcI g, 6, .inl f_st)), (q1, .inl (xcI g, 60, .inl (fun _ => (0 : Int32))))] := hD
  refine lv_aload_n hx hb dX3_init_17 rfl (lv_at hl 0 rfl) ?_
  refine lv_sipush (v := 180) hx hb dX3_init_18 (by decide) ?_
  refine va_newa (atype := .int) (ty := .int) (n := (180 : Int32)) (N' := 180) (a0 := (180, (.inl (fun _ => 0)))) hx hb (hts (.arrayClass .int) (by decide +kernel)) rfl hK hP hD hS hA (fun _ => rfl) (by decide +kernel) (by decide +kernel) (by decide +kernel) (by decide +kernel) (by decide +kernel) dX3_init_21 (fun q3 cA H hKn hP hD hS => ?_)
  obtain rfl := xarr (k := 0) (fun _ q9 => by cases q9) hKn rfl
  have hP : va_P g.1 vwCl [(a_th, .inr (3, [.ref a_pr, .ref q1, .null, .null, .int (0 : Int32)])), (a_pr, .inr (1, [.ref a_lo, .ref a_hi, .ref a_st])), (a_lo, .inl (xcI g, 15, .inl f_lo)), (a_hi, .inl (xcI g, 15, .inl f_hi)), (a_st, .inl (xcI g, 6, .inl f_st)), (q1, .inl (xcI g, 60, .inl (fun _ => (0 : Int32)))), (q3, .inl (xcI g, 180, .inl (fun _ => (0 : Int32))))] H := hP
  have hD : va_D A [(a_th, .inr (3, [.ref a_pr, .ref q1, .null, .null, .int (0 : Int32)])), (a_pr, .inr (1, [.ref a_lo, .ref a_hi, .ref a_st])), (a_lo, .inl (xcI g, 15, .inl f_lo)), (a_hi, .inl (xcI g, 15, .inl f_hi)), (a_st, .inl (xcI g, 6, .inl f_st)), (q1, .inl (xcI g, 60, .inl (fun _ => (0 : Int32)))), (q3, .inl (xcI g, 180, .inl (fun _ => (0 : Int32))))] := hD
  refine W.widen (k := 2) (n := 240) (by decide) (by decide) ?_
  refine va_putF (D := g.1) (ci := 3) (v := .ref q3) (ty := .array .int) (C := RX3) (T := TX3) (N := 5) hx hb hts in_X3_init_X3 tyX3 tyX3_ok nmX3 hown hK hP hD hS 0 rfl rfl 2 (by decide) (hts (.fieldLink RX3 19 "RandomModels$Things" "threeSteps" "[I") (by decide +kernel)) (fun _ h9 => h9) rfl hin rfl (by decide +kernel) rfl rfl (Nat.le_of_ble_eq_true rfl) dX3_init_23 (fun H locs hP hD hS => ?_)
  have hP : va_P g.1 vwCl [(a_th, .inr (3, [.ref a_pr, .ref q1, .ref q3, .null, .int (0 : Int32)])), (a_pr, .inr (1, [.ref a_lo, .ref a_hi, .ref a_st])), (a_lo, .inl (xcI g, 15, .inl f_lo)), (a_hi, .inl (xcI g, 15, .inl f_hi)), (a_st, .inl (xcI g, 6, .inl f_st)), (q1, .inl (xcI g, 60, .inl (fun _ => (0 : Int32)))), (q3, .inl (xcI g, 180, .inl (fun _ => (0 : Int32))))] H := hP
  have hD : va_D A [(a_th, .inr (3, [.ref a_pr, .ref q1, .ref q3, .null, .int (0 : Int32)])), (a_pr, .inr (1, [.ref a_lo, .ref a_hi, .ref a_st])), (a_lo, .inl (xcI g, 15, .inl f_lo)), (a_hi, .inl (xcI g, 15, .inl f_hi)), (a_st, .inl (xcI g, 6, .inl f_st)), (q1, .inl (xcI g, 60, .inl (fun _ => (0 : Int32)))), (q3, .inl (xcI g, 180, .inl (fun _ => (0 : Int32))))] := hD
  refine lv_aload_n hx hb dX3_init_26 rfl (lv_at hl 0 rfl) ?_
  refine lv_iconst (v := 1) hx hb dX3_init_27 (by decide) ?_
  refine va_newa (atype := .int) (ty := .int) (n := (1 : Int32)) (N' := 1) (a0 := (1, (.inl (fun _ => 0)))) hx hb (hts (.arrayClass .int) (by decide +kernel)) rfl hK hP hD hS hA (fun _ => rfl) (by decide +kernel) (by decide +kernel) (by decide +kernel) (by decide +kernel) (by decide +kernel) dX3_init_28 (fun q5 cA H hKn hP hD hS => ?_)
  obtain rfl := xarr (k := 0) (fun _ q9 => by cases q9) hKn rfl
  have hP : va_P g.1 vwCl [(a_th, .inr (3, [.ref a_pr, .ref q1, .ref q3, .null, .int (0 : Int32)])), (a_pr, .inr (1, [.ref a_lo, .ref a_hi, .ref a_st])), (a_lo, .inl (xcI g, 15, .inl f_lo)), (a_hi, .inl (xcI g, 15, .inl f_hi)), (a_st, .inl (xcI g, 6, .inl f_st)), (q1, .inl (xcI g, 60, .inl (fun _ => (0 : Int32)))), (q3, .inl (xcI g, 180, .inl (fun _ => (0 : Int32)))), (q5, .inl (xcI g, 1, .inl (fun _ => (0 : Int32))))] H := hP
  have hD : va_D A [(a_th, .inr (3, [.ref a_pr, .ref q1, .ref q3, .null, .int (0 : Int32)])), (a_pr, .inr (1, [.ref a_lo, .ref a_hi, .ref a_st])), (a_lo, .inl (xcI g, 15, .inl f_lo)), (a_hi, .inl (xcI g, 15, .inl f_hi)), (a_st, .inl (xcI g, 6, .inl f_st)), (q1, .inl (xcI g, 60, .inl (fun _ => (0 : Int32)))), (q3, .inl (xcI g, 180, .inl (fun _ => (0 : Int32)))), (q5, .inl (xcI g, 1, .inl (fun _ => (0 : Int32))))] := hD
  refine W.widen (k := 3) (n := 241) (by decide) (by decide) ?_
  refine va_put (D := g.1) (ci := 3) (v := .ref q5) (ty := .array .int) (C := RX3) (T := TX3) (N := 5) hx hb hts in_X3_init_X3 tyX3 tyX3_ok nmX3 hown hK hP hD hS 0 rfl rfl 3 (by decide) (hts (.fieldLink RX3 22 "RandomModels$Things" "kept" "[I") (by decide +kernel)) (fun _ h9 => h9) rfl (by decide +kernel) rfl rfl (Nat.le_of_ble_eq_true rfl) dX3_init_30 (fun H locs hP hD hS => ?_)
  have hP : va_P g.1 vwCl [(a_th, .inr (3, [.ref a_pr, .ref q1, .ref q3, .ref q5, .int (0 : Int32)])), (a_pr, .inr (1, [.ref a_lo, .ref a_hi, .ref a_st])), (a_lo, .inl (xcI g, 15, .inl f_lo)), (a_hi, .inl (xcI g, 15, .inl f_hi)), (a_st, .inl (xcI g, 6, .inl f_st)), (q1, .inl (xcI g, 60, .inl (fun _ => (0 : Int32)))), (q3, .inl (xcI g, 180, .inl (fun _ => (0 : Int32)))), (q5, .inl (xcI g, 1, .inl (fun _ => (0 : Int32))))] H := hP
  have hD : va_D A [(a_th, .inr (3, [.ref a_pr, .ref q1, .ref q3, .ref q5, .int (0 : Int32)])), (a_pr, .inr (1, [.ref a_lo, .ref a_hi, .ref a_st])), (a_lo, .inl (xcI g, 15, .inl f_lo)), (a_hi, .inl (xcI g, 15, .inl f_hi)), (a_st, .inl (xcI g, 6, .inl f_st)), (q1, .inl (xcI g, 60, .inl (fun _ => (0 : Int32)))), (q3, .inl (xcI g, 180, .inl (fun _ => (0 : Int32)))), (q5, .inl (xcI g, 1, .inl (fun _ => (0 : Int32))))] := hD
  refine lv_aload_n hx hb dX3_init_33 rfl (lv_at hl 0 rfl) ?_
  refine lv_sipush (v := 32767) hx hb dX3_init_34 (by decide) ?_
  refine va_put (D := g.1) (ci := 3) (v := .int (32767 : Int32)) (ty := .int) (C := RX3) (T := TX3) (N := 5) hx hb hts in_X3_init_X3 tyX3 tyX3_ok nmX3 hown hK hP hD hS 0 rfl rfl 4 (by decide) (hts (.fieldLink RX3 25 "RandomModels$Things" "sameLabel" "I") (by decide +kernel)) (fun _ h9 => h9) rfl (by decide +kernel) rfl rfl (Nat.le_of_ble_eq_true rfl) dX3_init_37 (fun H locs hP hD hS => ?_)
  have hP : va_P g.1 vwCl [(a_th, .inr (3, [.ref a_pr, .ref q1, .ref q3, .ref q5, .int (32767 : Int32)])), (a_pr, .inr (1, [.ref a_lo, .ref a_hi, .ref a_st])), (a_lo, .inl (xcI g, 15, .inl f_lo)), (a_hi, .inl (xcI g, 15, .inl f_hi)), (a_st, .inl (xcI g, 6, .inl f_st)), (q1, .inl (xcI g, 60, .inl (fun _ => (0 : Int32)))), (q3, .inl (xcI g, 180, .inl (fun _ => (0 : Int32)))), (q5, .inl (xcI g, 1, .inl (fun _ => (0 : Int32))))] H := hP
  have hD : va_D A [(a_th, .inr (3, [.ref a_pr, .ref q1, .ref q3, .ref q5, .int (32767 : Int32)])), (a_pr, .inr (1, [.ref a_lo, .ref a_hi, .ref a_st])), (a_lo, .inl (xcI g, 15, .inl f_lo)), (a_hi, .inl (xcI g, 15, .inl f_hi)), (a_st, .inl (xcI g, 6, .inl f_st)), (q1, .inl (xcI g, 60, .inl (fun _ => (0 : Int32)))), (q3, .inl (xcI g, 180, .inl (fun _ => (0 : Int32)))), (q5, .inl (xcI g, 1, .inl (fun _ => (0 : Int32))))] := hD
  refine lv_iconst (v := 0) hx hb dX3_init_40 (by decide) ?_
  refine lv_istore_n (lv' := [(2, .int (0 : Int32)), (0, .ref a_th), (1, .ref a_pr)]) hx hb dX3_init_41 rfl hl (by decide) rfl (fun ls hl => ?_)
  obtain ⟨n, h⟩ := h
  exact w_X3_init_42 C0 a_th a_pr a_lo a_hi a_st f_lo f_hi f_st post   n q1 q3 q5 (0 : Int32) (fun _ => (0 : Int32)) (fun _ => (0 : Int32)) 1 (fun _ => (0 : Int32)) (32767 : Int32) (hP.sub [0, 5, 6, 7, 1, 2, 3, 4] rfl) (hD.sub [0, 5, 6, 7, 1, 2, 3, 4] (by decide) rfl) hS (lv_sub hl [1, 0] rfl) h
