/-! feed of the reference -/
def bt (x : Int32) (i : Nat) : Bool := x.toBitVec.getLsbD i
theorem s_l : ∀ n, n < 32 → ((nI n &&& 31).toBitVec.smod 32).toNat = n := by decide +kernel
theorem s_u : ∀ n, n < 32 → (((nI n).toUInt32 &&& Int32.toUInt32 31).toBitVec % 32).toNat = n := by decide +kernel
theorem b_ushr (n : Nat) (hn : n < 32) (x : Int32) (i : Nat) : bt ((x.toUInt32 >>> ((nI n).toUInt32 &&& Int32.toUInt32 31)).toInt32) i = bt x (n + i) := by
  show (x.toUInt32 >>> ((nI n).toUInt32 &&& Int32.toUInt32 31)).toBitVec.getLsbD i = x.toUInt32.toBitVec.getLsbD (n + i)
  rw [UInt32.toBitVec_shiftRight]
  show (x.toUInt32.toBitVec >>> (((nI n).toUInt32 &&& Int32.toUInt32 31).toBitVec % 32).toNat).getLsbD i = _
  rw [s_u n hn, BitVec.getLsbD_ushiftRight]
theorem b_sshr (n : Nat) (hn : n < 32) (x : Int32) {i : Nat} (hi : i < 32) : bt (x >>> (nI n &&& 31)) i = if n + i < 32 then bt x (n + i) else bt x 31 := by
  unfold bt
  rw [Int32.toBitVec_shiftRight]
  show (x.toBitVec.sshiftRight ((nI n &&& 31).toBitVec.smod 32).toNat).getLsbD i = _
  rw [s_l n hn, BitVec.getLsbD_sshiftRight, BitVec.msb_eq_getLsbD_last]
  simp [hi]
theorem b8_ext {x y : Int32} (h : ∀ i, i < 8 → bt x i = bt y i) : x.toInt8.toInt32 = y.toInt8.toInt32 := by
  have e : x.toInt8 = y.toInt8 := by
    apply Int8.toBitVec_inj.mp
    apply BitVec.eq_of_getLsbD_eq
    intro i hi
    have hb := h i hi
    unfold bt at hb
    have h32 : i < 32 := by omega
    rw [Int32.toBitVec_toInt8, Int32.toBitVec_toInt8, BitVec.getLsbD_signExtend, BitVec.getLsbD_signExtend]
    rw [if_pos h32, if_pos h32, hb]
  rw [e]
/-- the byte that a shift brings down is the same, whatever comes in above -/
theorem by_sh (v : Int32) : ∀ j : Nat, j < 4 → ((v.toUInt32 >>> ((nI (24 - 8 * j)).toUInt32 &&& Int32.toUInt32 31)).toInt32).toInt8.toInt32 = fb v j := by
  intro j hj
  have h4 : j = 0 ∨ j = 1 ∨ j = 2 ∨ j = 3 := by omega
  have key : ∀ n : Nat, n ≤ 24 → ((v.toUInt32 >>> ((nI n).toUInt32 &&& Int32.toUInt32 31)).toInt32).toInt8.toInt32 = (v >>> (nI n &&& 31)).toInt8.toInt32 := by
    intro n hn
    apply b8_ext
    intro i hi
    rw [b_ushr n (by omega), b_sshr n (by omega) v (by omega), if_pos (by omega)]
  rcases h4 with rfl | rfl | rfl | rfl
  · exact key 24 (by omega)
  · exact key 16 (by omega)
  · exact key 8 (by omega)
  · refine (key 0 (by omega)).trans ?_
    show (v >>> ((0 : Int32) &&& 31)).toInt8.toInt32 = v.toInt8.toInt32
    rw [sb_shr0]
/-- the number that byte k of a feed is taken from -/
def fv (va vb vc vd ve : Int32) (k : Nat) : Int32 := if k < 4 then va else if k < 8 then vb else if k < 12 then vc else if k < 16 then vd else ve
/-- the tape with i bytes of a feed on it -/
def fT (f : Nat → Int32) (n : Nat) (va vb vc vd ve : Int32) (i : Nat) : Nat → Int32 := fun q => if n ≤ q ∧ q < n + i then fb (fv va vb vc vd ve (q - n)) ((q - n) % 4) else f q
theorem fT_0 {f : Nat → Int32} {n : Nat} {va vb vc vd ve : Int32} : f = fT f n va vb vc vd ve 0 := by
  funext q
  unfold fT
  rw [if_neg (by omega)]
theorem fT_s {f : Nat → Int32} {n i : Nat} {va vb vc vd ve v : Int32} (hn : n + i < 65536) (hv : v = fb (fv va vb vc vd ve i) (i % 4)) : upd (fT f n va vb vc vd ve i) (nI (n + i)).toNatClampNeg (vp_nar .byte v) = fT f n va vb vc vd ve (i + 1) := by
  have e : vp_nar .byte v = v := by
    rw [hv]
    have h4 : i % 4 = 0 ∨ i % 4 = 1 ∨ i % 4 = 2 ∨ i % 4 = 3 := by omega
    rcases h4 with h | h | h | h <;> rw [h] <;> exact pk_vb _
  rw [e, nI_clamp (by omega)]
  funext q
  by_cases h : q = n + i
  · subst h
    rw [pk_us, hv]
    unfold fT
    rw [if_pos (by omega), show n + i - n = i by omega]
  · rw [pk_un h]
    unfold fT
    by_cases h2 : n ≤ q ∧ q < n + i
    · rw [if_pos h2, if_pos (by omega)]
    · rw [if_neg h2, if_neg (by omega)]
theorem fT_20 {f : Nat → Int32} {n : Nat} {va vb vc vd ve : Int32} : fT f n va vb vc vd ve 20 = (ap4 (ap4 (ap4 (ap4 (ap4 f n va) (n + 4) vb) (n + 8) vc) (n + 12) vd) (n + 16) ve) := by
  funext q
  unfold fT ap4
  by_cases h0 : n ≤ q ∧ q < n + 20
  · rw [if_pos h0]
    by_cases h5 : n + 16 ≤ q ∧ q < n + 16 + 4
    · rw [if_pos h5]
      unfold fv
      rw [if_neg (by omega), if_neg (by omega), if_neg (by omega), if_neg (by omega), show (q - n) % 4 = q - (n + 16) by omega]
    rw [if_neg h5]
    by_cases h4 : n + 12 ≤ q ∧ q < n + 12 + 4
    · rw [if_pos h4]
      unfold fv
      rw [if_neg (by omega), if_neg (by omega), if_neg (by omega), if_pos (by omega), show (q - n) % 4 = q - (n + 12) by omega]
    rw [if_neg h4]
    by_cases h3 : n + 8 ≤ q ∧ q < n + 8 + 4
    · rw [if_pos h3]
      unfold fv
      rw [if_neg (by omega), if_neg (by omega), if_pos (by omega), show (q - n) % 4 = q - (n + 8) by omega]
    rw [if_neg h3]
    by_cases h2 : n + 4 ≤ q ∧ q < n + 4 + 4
    · rw [if_pos h2]
      unfold fv
      rw [if_neg (by omega), if_pos (by omega), show (q - n) % 4 = q - (n + 4) by omega]
    rw [if_neg h2, if_pos (by omega)]
    unfold fv
    rw [if_pos (by omega), show (q - n) % 4 = q - n by omega]
  · rw [if_neg h0, if_neg (by omega), if_neg (by omega), if_neg (by omega), if_neg (by omega), if_neg (by omega)]
theorem d_M_feed_0 : decode b_M_feed 0 = .ok (.aload_n 0, 1) := by decide +kernel
theorem d_M_feed_1 : decode b_M_feed 1 = .ok (.iconst 0, 1) := by decide +kernel
theorem d_M_feed_2 : decode b_M_feed 2 = .ok (.putfield 18, 3) := by decide +kernel
theorem d_M_feed_5 : decode b_M_feed 5 = .ok (.aload_n 0, 1) := by decide +kernel
theorem d_M_feed_6 : decode b_M_feed 6 = .ok (.iconst 1, 1) := by decide +kernel
theorem d_M_feed_7 : decode b_M_feed 7 = .ok (.aload_n 0, 1) := by decide +kernel
theorem d_M_feed_8 : decode b_M_feed 8 = .ok (.getfield 14, 3) := by decide +kernel
theorem d_M_feed_11 : decode b_M_feed 11 = .ok (.ldc_w 269, 3) := by decide +kernel
theorem d_M_feed_14 : decode b_M_feed 14 = .ok (.if_icmp .le 7, 3) := by decide +kernel
theorem d_M_feed_17 : decode b_M_feed 17 = .ok (.iconst 1, 1) := by decide +kernel
theorem d_M_feed_18 : decode b_M_feed 18 = .ok (.goto 4, 3) := by decide +kernel
theorem d_M_feed_21 : decode b_M_feed 21 = .ok (.iconst 0, 1) := by decide +kernel
theorem d_M_feed_22 : decode b_M_feed 22 = .ok (.invokevirtual 270, 3) := by decide +kernel
theorem d_M_feed_25 : decode b_M_feed 25 = .ok (.ifCond .eq 5, 3) := by decide +kernel
theorem d_M_feed_28 : decode b_M_feed 28 = .ok (.iconst 0, 1) := by decide +kernel
theorem d_M_feed_29 : decode b_M_feed 29 = .ok (.ireturn, 1) := by decide +kernel
theorem d_M_feed_30 : decode b_M_feed 30 = .ok (.iconst 0, 1) := by decide +kernel
theorem d_M_feed_31 : decode b_M_feed 31 = .ok (.istore 6, 2) := by decide +kernel
theorem d_M_feed_33 : decode b_M_feed 33 = .ok (.iload 6, 2) := by decide +kernel
theorem d_M_feed_35 : decode b_M_feed 35 = .ok (.bipush 20, 2) := by decide +kernel
theorem d_M_feed_37 : decode b_M_feed 37 = .ok (.if_icmp .ge 87, 3) := by decide +kernel
theorem d_M_feed_40 : decode b_M_feed 40 = .ok (.iload 6, 2) := by decide +kernel
theorem d_M_feed_42 : decode b_M_feed 42 = .ok (.iconst 4, 1) := by decide +kernel
theorem d_M_feed_43 : decode b_M_feed 43 = .ok (.if_icmp .ge 7, 3) := by decide +kernel
theorem d_M_feed_46 : decode b_M_feed 46 = .ok (.iload_n 1, 1) := by decide +kernel
theorem d_M_feed_47 : decode b_M_feed 47 = .ok (.goto 39, 3) := by decide +kernel
theorem d_M_feed_50 : decode b_M_feed 50 = .ok (.iload 6, 2) := by decide +kernel
theorem d_M_feed_52 : decode b_M_feed 52 = .ok (.bipush 8, 2) := by decide +kernel
theorem d_M_feed_54 : decode b_M_feed 54 = .ok (.if_icmp .ge 7, 3) := by decide +kernel
theorem d_M_feed_57 : decode b_M_feed 57 = .ok (.iload_n 2, 1) := by decide +kernel
theorem d_M_feed_58 : decode b_M_feed 58 = .ok (.goto 28, 3) := by decide +kernel
theorem d_M_feed_61 : decode b_M_feed 61 = .ok (.iload 6, 2) := by decide +kernel
theorem d_M_feed_63 : decode b_M_feed 63 = .ok (.bipush 12, 2) := by decide +kernel
theorem d_M_feed_65 : decode b_M_feed 65 = .ok (.if_icmp .ge 7, 3) := by decide +kernel
theorem d_M_feed_68 : decode b_M_feed 68 = .ok (.iload_n 3, 1) := by decide +kernel
theorem d_M_feed_69 : decode b_M_feed 69 = .ok (.goto 17, 3) := by decide +kernel
theorem d_M_feed_72 : decode b_M_feed 72 = .ok (.iload 6, 2) := by decide +kernel
theorem d_M_feed_74 : decode b_M_feed 74 = .ok (.bipush 16, 2) := by decide +kernel
theorem d_M_feed_76 : decode b_M_feed 76 = .ok (.if_icmp .ge 8, 3) := by decide +kernel
theorem d_M_feed_79 : decode b_M_feed 79 = .ok (.iload 4, 2) := by decide +kernel
theorem d_M_feed_81 : decode b_M_feed 81 = .ok (.goto 5, 3) := by decide +kernel
theorem d_M_feed_84 : decode b_M_feed 84 = .ok (.iload 5, 2) := by decide +kernel
theorem d_M_feed_86 : decode b_M_feed 86 = .ok (.istore 7, 2) := by decide +kernel
theorem d_M_feed_88 : decode b_M_feed 88 = .ok (.aload_n 0, 1) := by decide +kernel
theorem d_M_feed_89 : decode b_M_feed 89 = .ok (.getfield 8, 3) := by decide +kernel
theorem d_M_feed_92 : decode b_M_feed 92 = .ok (.aload_n 0, 1) := by decide +kernel
theorem d_M_feed_93 : decode b_M_feed 93 = .ok (.dup, 1) := by decide +kernel
theorem d_M_feed_94 : decode b_M_feed 94 = .ok (.getfield 14, 3) := by decide +kernel
theorem d_M_feed_97 : decode b_M_feed 97 = .ok (.dup_x1, 1) := by decide +kernel
theorem d_M_feed_98 : decode b_M_feed 98 = .ok (.iconst 1, 1) := by decide +kernel
theorem d_M_feed_99 : decode b_M_feed 99 = .ok (.iadd, 1) := by decide +kernel
theorem d_M_feed_100 : decode b_M_feed 100 = .ok (.putfield 14, 3) := by decide +kernel
theorem d_M_feed_103 : decode b_M_feed 103 = .ok (.iload 7, 2) := by decide +kernel
theorem d_M_feed_105 : decode b_M_feed 105 = .ok (.bipush 24, 2) := by decide +kernel
theorem d_M_feed_107 : decode b_M_feed 107 = .ok (.bipush 8, 2) := by decide +kernel
theorem d_M_feed_109 : decode b_M_feed 109 = .ok (.iload 6, 2) := by decide +kernel
theorem d_M_feed_111 : decode b_M_feed 111 = .ok (.iconst 4, 1) := by decide +kernel
theorem d_M_feed_112 : decode b_M_feed 112 = .ok (.irem, 1) := by decide +kernel
theorem d_M_feed_113 : decode b_M_feed 113 = .ok (.imul, 1) := by decide +kernel
theorem d_M_feed_114 : decode b_M_feed 114 = .ok (.isub, 1) := by decide +kernel
theorem d_M_feed_115 : decode b_M_feed 115 = .ok (.iushr, 1) := by decide +kernel
theorem d_M_feed_116 : decode b_M_feed 116 = .ok (.i2b, 1) := by decide +kernel
theorem d_M_feed_117 : decode b_M_feed 117 = .ok (.bastore, 1) := by decide +kernel
theorem d_M_feed_118 : decode b_M_feed 118 = .ok (.iinc 6 1, 3) := by decide +kernel
theorem d_M_feed_121 : decode b_M_feed 121 = .ok (.goto (-88), 3) := by decide +kernel
theorem d_M_feed_124 : decode b_M_feed 124 = .ok (.aload_n 0, 1) := by decide +kernel
theorem d_M_feed_125 : decode b_M_feed 125 = .ok (.getfield 14, 3) := by decide +kernel
theorem d_M_feed_128 : decode b_M_feed 128 = .ok (.ireturn, 1) := by decide +kernel
set_option maxHeartbeats 4000000 in
set_option maxRecDepth 100000 in
theorem tl_M_feed {p : Program} {l : Launch} {e : Env} {s : State} {m : MethodId} {args : Array Value} {below : List Frame} {meth : Method} {c : Code} {Q : State → Prop} {A : Nat → Prop} (D : va_G) (cI cB cJ cZ : ClassId) (hx : p.tables.exec = Jvm.exec) (hb : c.code = b_M_feed) (hml : c.maxLocals = 8) (hown : s.vm.findClass R_M = some m.cls) (hG : ∀ w ∈ gG, w.before args s = true) (hK : va_K D kl (tyL cI cB cJ cZ) s) (hA : ∀ q : Nat, s.heap.size ≤ q → A q) (g0 n : Nat) (m_tape m_nodeAt m_nodeSize m_variableFrom m_inputCount m_outputCount m_equationFrom m_callCount m_stateCount m_wordAt m_wordSize m_clockOf m_given m_truth m_placeOf m_leftFrom m_bodyOf m_lefts m_fromOf m_sort m_one m_kid m_beside m_clock m_state m_price m_high m_isTruth m_full m_part m_low m_definedBy m_definedAs m_partsOf m_nodeOf m_outer m_callOf m_base m_statesFrom m_callsFrom m_childOf m_instanceOf m_localOf m_causeFrom m_causeOf m_reached m_todo m_order m_undone m_inputs m_value m_memory m_later m_worth m_here m_keptMemory m_keptValue m_keptHere : Nat) (x_faultKind x_faultPlace x_pos x_token x_tokenAt x_tokenEnd x_seen x_nodes x_variables x_equations x_leftCount x_parsed x_placeNow x_main x_instances x_all x_states x_memories x_calls x_allParts x_causesTotal x_instants x_keptInstants x_isKept : Int32) (va vb vc vd ve : Int32) (f : Nat → Int32) (hn : n + 20 ≤ 65536) (i : Nat) (hi : i < 20) (ih : ∀ (H : Heap) (locs : List Loc) (ls : Array Slot), lv_has ls 8 [(6, .int (nI (i + 1))), (0, .ref g0), (1, .int va), (2, .int vb), (3, .int vc), (4, .int vd), (5, .int ve)] → va_P D kl [(g0, .inr (12, [.ref m_tape, .int (nI (n + (i + 1))), .int 0, .int x_faultKind, .int x_faultPlace, .int x_pos, .int x_token, .int x_tokenAt, .int x_tokenEnd, .int x_seen, .ref m_nodeAt, .ref m_nodeSize, .ref m_variableFrom, .ref m_inputCount, .ref m_outputCount, .ref m_equationFrom, .ref m_callCount, .ref m_stateCount, .int x_nodes, .int x_variables, .ref m_wordAt, .ref m_wordSize, .ref m_clockOf, .ref m_given, .ref m_truth, .ref m_placeOf, .ref m_leftFrom, .ref m_bodyOf, .ref m_lefts, .ref m_fromOf, .int x_equations, .int x_leftCount, .ref m_sort, .ref m_one, .ref m_kid, .ref m_beside, .ref m_clock, .ref m_state, .ref m_price, .ref m_high, .int x_parsed, .ref m_isTruth, .int x_placeNow, .ref m_full, .ref m_part, .ref m_low, .ref m_definedBy, .ref m_definedAs, .ref m_partsOf, .int x_main, .int x_instances, .int x_all, .int x_states, .int x_memories, .int x_calls, .int x_allParts, .ref m_nodeOf, .ref m_outer, .ref m_callOf, .ref m_base, .ref m_statesFrom, .ref m_callsFrom, .ref m_childOf, .ref m_instanceOf, .ref m_localOf, .ref m_causeFrom, .ref m_causeOf, .int x_causesTotal, .ref m_reached, .ref m_todo, .ref m_order, .ref m_undone, .int x_instants, .ref m_inputs, .ref m_value, .ref m_memory, .ref m_later, .ref m_worth, .ref m_here, .ref m_keptMemory, .ref m_keptValue, .ref m_keptHere, .int x_keptInstants, .int x_isKept])), (m_tape, .inl (cB, 65536, .inl (fT f n va vb vc vd ve (i + 1))))] H → va_D A [(g0, .inr (12, [.ref m_tape, .int (nI (n + (i + 1))), .int 0, .int x_faultKind, .int x_faultPlace, .int x_pos, .int x_token, .int x_tokenAt, .int x_tokenEnd, .int x_seen, .ref m_nodeAt, .ref m_nodeSize, .ref m_variableFrom, .ref m_inputCount, .ref m_outputCount, .ref m_equationFrom, .ref m_callCount, .ref m_stateCount, .int x_nodes, .int x_variables, .ref m_wordAt, .ref m_wordSize, .ref m_clockOf, .ref m_given, .ref m_truth, .ref m_placeOf, .ref m_leftFrom, .ref m_bodyOf, .ref m_lefts, .ref m_fromOf, .int x_equations, .int x_leftCount, .ref m_sort, .ref m_one, .ref m_kid, .ref m_beside, .ref m_clock, .ref m_state, .ref m_price, .ref m_high, .int x_parsed, .ref m_isTruth, .int x_placeNow, .ref m_full, .ref m_part, .ref m_low, .ref m_definedBy, .ref m_definedAs, .ref m_partsOf, .int x_main, .int x_instances, .int x_all, .int x_states, .int x_memories, .int x_calls, .int x_allParts, .ref m_nodeOf, .ref m_outer, .ref m_callOf, .ref m_base, .ref m_statesFrom, .ref m_callsFrom, .ref m_childOf, .ref m_instanceOf, .ref m_localOf, .ref m_causeFrom, .ref m_causeOf, .int x_causesTotal, .ref m_reached, .ref m_todo, .ref m_order, .ref m_undone, .int x_instants, .ref m_inputs, .ref m_value, .ref m_memory, .ref m_later, .ref m_worth, .ref m_here, .ref m_keptMemory, .ref m_keptValue, .ref m_keptHere, .int x_keptInstants, .int x_isKept])), (m_tape, .inl (cB, 65536, .inl (fT f n va vb vc vd ve (i + 1))))] → va_S A s.heap H locs → W p l e ({ frames := 1, cells := 0, slots := 0, locals := 30 } : Room) s m args below meth c H locs 0 0 Q (F0 m 33 ls [])) : ∀ (H : Heap) (locs : List Loc) (ls : Array Slot), lv_has ls 8 [(6, .int (nI i)), (0, .ref g0), (1, .int va), (2, .int vb), (3, .int vc), (4, .int vd), (5, .int ve)] → va_P D kl [(g0, .inr (12, [.ref m_tape, .int (nI (n + i)), .int 0, .int x_faultKind, .int x_faultPlace, .int x_pos, .int x_token, .int x_tokenAt, .int x_tokenEnd, .int x_seen, .ref m_nodeAt, .ref m_nodeSize, .ref m_variableFrom, .ref m_inputCount, .ref m_outputCount, .ref m_equationFrom, .ref m_callCount, .ref m_stateCount, .int x_nodes, .int x_variables, .ref m_wordAt, .ref m_wordSize, .ref m_clockOf, .ref m_given, .ref m_truth, .ref m_placeOf, .ref m_leftFrom, .ref m_bodyOf, .ref m_lefts, .ref m_fromOf, .int x_equations, .int x_leftCount, .ref m_sort, .ref m_one, .ref m_kid, .ref m_beside, .ref m_clock, .ref m_state, .ref m_price, .ref m_high, .int x_parsed, .ref m_isTruth, .int x_placeNow, .ref m_full, .ref m_part, .ref m_low, .ref m_definedBy, .ref m_definedAs, .ref m_partsOf, .int x_main, .int x_instances, .int x_all, .int x_states, .int x_memories, .int x_calls, .int x_allParts, .ref m_nodeOf, .ref m_outer, .ref m_callOf, .ref m_base, .ref m_statesFrom, .ref m_callsFrom, .ref m_childOf, .ref m_instanceOf, .ref m_localOf, .ref m_causeFrom, .ref m_causeOf, .int x_causesTotal, .ref m_reached, .ref m_todo, .ref m_order, .ref m_undone, .int x_instants, .ref m_inputs, .ref m_value, .ref m_memory, .ref m_later, .ref m_worth, .ref m_here, .ref m_keptMemory, .ref m_keptValue, .ref m_keptHere, .int x_keptInstants, .int x_isKept])), (m_tape, .inl (cB, 65536, .inl (fT f n va vb vc vd ve i)))] H → va_D A [(g0, .inr (12, [.ref m_tape, .int (nI (n + i)), .int 0, .int x_faultKind, .int x_faultPlace, .int x_pos, .int x_token, .int x_tokenAt, .int x_tokenEnd, .int x_seen, .ref m_nodeAt, .ref m_nodeSize, .ref m_variableFrom, .ref m_inputCount, .ref m_outputCount, .ref m_equationFrom, .ref m_callCount, .ref m_stateCount, .int x_nodes, .int x_variables, .ref m_wordAt, .ref m_wordSize, .ref m_clockOf, .ref m_given, .ref m_truth, .ref m_placeOf, .ref m_leftFrom, .ref m_bodyOf, .ref m_lefts, .ref m_fromOf, .int x_equations, .int x_leftCount, .ref m_sort, .ref m_one, .ref m_kid, .ref m_beside, .ref m_clock, .ref m_state, .ref m_price, .ref m_high, .int x_parsed, .ref m_isTruth, .int x_placeNow, .ref m_full, .ref m_part, .ref m_low, .ref m_definedBy, .ref m_definedAs, .ref m_partsOf, .int x_main, .int x_instances, .int x_all, .int x_states, .int x_memories, .int x_calls, .int x_allParts, .ref m_nodeOf, .ref m_outer, .ref m_callOf, .ref m_base, .ref m_statesFrom, .ref m_callsFrom, .ref m_childOf, .ref m_instanceOf, .ref m_localOf, .ref m_causeFrom, .ref m_causeOf, .int x_causesTotal, .ref m_reached, .ref m_todo, .ref m_order, .ref m_undone, .int x_instants, .ref m_inputs, .ref m_value, .ref m_memory, .ref m_later, .ref m_worth, .ref m_here, .ref m_keptMemory, .ref m_keptValue, .ref m_keptHere, .int x_keptInstants, .int x_isKept])), (m_tape, .inl (cB, 65536, .inl (fT f n va vb vc vd ve i)))] → va_S A s.heap H locs → W p l e ({ frames := 1, cells := 0, slots := 0, locals := 30 } : Room) s m args below meth c H locs 0 0 Q (F0 m 86 ls [.int (fv va vb vc vd ve i)]) := by
  intro H locs ls hl hP hD hS
  refine lv_istore (lv' := [(7, .int (fv va vb vc vd ve i)), (6, .int (nI i)), (0, .ref g0), (1, .int va), (2, .int vb), (3, .int vc), (4, .int vd), (5, .int ve)]) hx hb d_M_feed_86 hl (by decide) rfl (fun ls hl => ?_)
  refine lv_aload_n hx hb d_M_feed_88 rfl (lv_at hl 2 rfl) ?_
  refine va_get (D := D) (ci := 12) (v := .ref m_tape) (C := R_M) (T := T_M) (N := 84) hx hb hG gi_M hown hK hP 0 rfl rfl 0 (by decide) (hG _ fl_M_8) (fun _ h9 => h9) rfl d_M_feed_89 ?_
  refine lv_aload_n hx hb d_M_feed_92 rfl (lv_at hl 2 rfl) ?_
  refine lv_dup hx hb d_M_feed_93 rfl ?_
  refine va_get (D := D) (ci := 12) (v := .int (nI (n + i))) (C := R_M) (T := T_M) (N := 84) hx hb hG gi_M hown hK hP 0 rfl rfl 1 (by decide) (hG _ fl_M_14) (fun _ h9 => h9) rfl d_M_feed_94 ?_
  refine lv_dup_x1 hx hb d_M_feed_97 rfl rfl ?_
  refine lv_iconst (v := 1) hx hb d_M_feed_98 (by decide) ?_
  refine lv_iadd hx hb d_M_feed_99 ?_
  refine va_put (D := D) (ci := 12) (v := .int ((nI (n + i)) + 1)) (ty := .int) (C := R_M) (T := T_M) (N := 84) hx hb hG gi_M ty_M to_M nm_M hown hK hP hD hS 0 rfl rfl 1 (by decide) (hG _ fl_M_14) (fun _ h9 => h9) rfl (by decide +kernel) rfl rfl (Nat.le_of_ble_eq_true rfl) d_M_feed_100 (fun H locs hP hD hS => ?_)
  have hP : va_P D kl [(g0, .inr (12, [.ref m_tape, .int ((nI (n + i)) + 1), .int 0, .int x_faultKind, .int x_faultPlace, .int x_pos, .int x_token, .int x_tokenAt, .int x_tokenEnd, .int x_seen, .ref m_nodeAt, .ref m_nodeSize, .ref m_variableFrom, .ref m_inputCount, .ref m_outputCount, .ref m_equationFrom, .ref m_callCount, .ref m_stateCount, .int x_nodes, .int x_variables, .ref m_wordAt, .ref m_wordSize, .ref m_clockOf, .ref m_given, .ref m_truth, .ref m_placeOf, .ref m_leftFrom, .ref m_bodyOf, .ref m_lefts, .ref m_fromOf, .int x_equations, .int x_leftCount, .ref m_sort, .ref m_one, .ref m_kid, .ref m_beside, .ref m_clock, .ref m_state, .ref m_price, .ref m_high, .int x_parsed, .ref m_isTruth, .int x_placeNow, .ref m_full, .ref m_part, .ref m_low, .ref m_definedBy, .ref m_definedAs, .ref m_partsOf, .int x_main, .int x_instances, .int x_all, .int x_states, .int x_memories, .int x_calls, .int x_allParts, .ref m_nodeOf, .ref m_outer, .ref m_callOf, .ref m_base, .ref m_statesFrom, .ref m_callsFrom, .ref m_childOf, .ref m_instanceOf, .ref m_localOf, .ref m_causeFrom, .ref m_causeOf, .int x_causesTotal, .ref m_reached, .ref m_todo, .ref m_order, .ref m_undone, .int x_instants, .ref m_inputs, .ref m_value, .ref m_memory, .ref m_later, .ref m_worth, .ref m_here, .ref m_keptMemory, .ref m_keptValue, .ref m_keptHere, .int x_keptInstants, .int x_isKept])), (m_tape, .inl (cB, 65536, .inl (fT f n va vb vc vd ve i)))] H := hP
  have hD : va_D A [(g0, .inr (12, [.ref m_tape, .int ((nI (n + i)) + 1), .int 0, .int x_faultKind, .int x_faultPlace, .int x_pos, .int x_token, .int x_tokenAt, .int x_tokenEnd, .int x_seen, .ref m_nodeAt, .ref m_nodeSize, .ref m_variableFrom, .ref m_inputCount, .ref m_outputCount, .ref m_equationFrom, .ref m_callCount, .ref m_stateCount, .int x_nodes, .int x_variables, .ref m_wordAt, .ref m_wordSize, .ref m_clockOf, .ref m_given, .ref m_truth, .ref m_placeOf, .ref m_leftFrom, .ref m_bodyOf, .ref m_lefts, .ref m_fromOf, .int x_equations, .int x_leftCount, .ref m_sort, .ref m_one, .ref m_kid, .ref m_beside, .ref m_clock, .ref m_state, .ref m_price, .ref m_high, .int x_parsed, .ref m_isTruth, .int x_placeNow, .ref m_full, .ref m_part, .ref m_low, .ref m_definedBy, .ref m_definedAs, .ref m_partsOf, .int x_main, .int x_instances, .int x_all, .int x_states, .int x_memories, .int x_calls, .int x_allParts, .ref m_nodeOf, .ref m_outer, .ref m_callOf, .ref m_base, .ref m_statesFrom, .ref m_callsFrom, .ref m_childOf, .ref m_instanceOf, .ref m_localOf, .ref m_causeFrom, .ref m_causeOf, .int x_causesTotal, .ref m_reached, .ref m_todo, .ref m_order, .ref m_undone, .int x_instants, .ref m_inputs, .ref m_value, .ref m_memory, .ref m_later, .ref m_worth, .ref m_here, .ref m_keptMemory, .ref m_keptValue, .ref m_keptHere, .int x_keptInstants, .int x_isKept])), (m_tape, .inl (cB, 65536, .inl (fT f n va vb vc vd ve i)))] := hD
  refine lv_iload hx hb d_M_feed_103 (lv_at hl 0 rfl) ?_
  refine lv_bipush (v := 24) hx hb d_M_feed_105 (by decide) ?_
  refine lv_bipush (v := 8) hx hb d_M_feed_107 (by decide) ?_
  refine lv_iload hx hb d_M_feed_109 (lv_at hl 1 rfl) ?_
  refine lv_iconst (v := 4) hx hb d_M_feed_111 (by decide) ?_
  refine lv_irem hx hb d_M_feed_112 (by decide) ?_
  rw [show nI i - nI i / 4 * 4 = nI (i % 4) from pk_rem (d := 4) (by omega) (by decide) (by decide)]
  refine lv_imul hx hb d_M_feed_113 ?_
  rw [show (8 : Int32) * nI (i % 4) = nI (8 * (i % 4)) from pk_mul 8 (i % 4)]
  refine lv_isub hx hb d_M_feed_114 ?_
  rw [show (24 : Int32) - nI (8 * (i % 4)) = nI (24 - 8 * (i % 4)) from pk_sub (a := 24) (b := 8 * (i % 4)) (by omega)]
  refine lv_iushr (v := ((fv va vb vc vd ve i).toUInt32 >>> ((nI (24 - 8 * (i % 4))).toUInt32 &&& Int32.toUInt32 31)).toInt32) hx hb d_M_feed_115 rfl ?_
  refine lv_i2b (v := (((fv va vb vc vd ve i).toUInt32 >>> ((nI (24 - 8 * (i % 4))).toUInt32 &&& Int32.toUInt32 31)).toInt32).toInt8.toInt32) hx hb d_M_feed_116 rfl ?_
  refine lv_topi (fun b1 eb => ?_)
  have eb2 : b1 = fb (fv va vb vc vd ve i) (i % 4) := eb.trans (by_sh _ _ (by omega))
  refine va_bast (D := D) hx hb hK hP hD hS 1 1 rfl rfl (vp_in_nI (by omega) (by decide)) d_M_feed_117 (fun H locs hP hD hS => ?_)
  have hP : va_P D kl [(g0, .inr (12, [.ref m_tape, .int ((nI (n + i)) + 1), .int 0, .int x_faultKind, .int x_faultPlace, .int x_pos, .int x_token, .int x_tokenAt, .int x_tokenEnd, .int x_seen, .ref m_nodeAt, .ref m_nodeSize, .ref m_variableFrom, .ref m_inputCount, .ref m_outputCount, .ref m_equationFrom, .ref m_callCount, .ref m_stateCount, .int x_nodes, .int x_variables, .ref m_wordAt, .ref m_wordSize, .ref m_clockOf, .ref m_given, .ref m_truth, .ref m_placeOf, .ref m_leftFrom, .ref m_bodyOf, .ref m_lefts, .ref m_fromOf, .int x_equations, .int x_leftCount, .ref m_sort, .ref m_one, .ref m_kid, .ref m_beside, .ref m_clock, .ref m_state, .ref m_price, .ref m_high, .int x_parsed, .ref m_isTruth, .int x_placeNow, .ref m_full, .ref m_part, .ref m_low, .ref m_definedBy, .ref m_definedAs, .ref m_partsOf, .int x_main, .int x_instances, .int x_all, .int x_states, .int x_memories, .int x_calls, .int x_allParts, .ref m_nodeOf, .ref m_outer, .ref m_callOf, .ref m_base, .ref m_statesFrom, .ref m_callsFrom, .ref m_childOf, .ref m_instanceOf, .ref m_localOf, .ref m_causeFrom, .ref m_causeOf, .int x_causesTotal, .ref m_reached, .ref m_todo, .ref m_order, .ref m_undone, .int x_instants, .ref m_inputs, .ref m_value, .ref m_memory, .ref m_later, .ref m_worth, .ref m_here, .ref m_keptMemory, .ref m_keptValue, .ref m_keptHere, .int x_keptInstants, .int x_isKept])), (m_tape, .inl (cB, 65536, .inl (upd (fT f n va vb vc vd ve i) (nI (n + i)).toNatClampNeg (vp_nar .byte b1))))] H := hP
  have hD : va_D A [(g0, .inr (12, [.ref m_tape, .int ((nI (n + i)) + 1), .int 0, .int x_faultKind, .int x_faultPlace, .int x_pos, .int x_token, .int x_tokenAt, .int x_tokenEnd, .int x_seen, .ref m_nodeAt, .ref m_nodeSize, .ref m_variableFrom, .ref m_inputCount, .ref m_outputCount, .ref m_equationFrom, .ref m_callCount, .ref m_stateCount, .int x_nodes, .int x_variables, .ref m_wordAt, .ref m_wordSize, .ref m_clockOf, .ref m_given, .ref m_truth, .ref m_placeOf, .ref m_leftFrom, .ref m_bodyOf, .ref m_lefts, .ref m_fromOf, .int x_equations, .int x_leftCount, .ref m_sort, .ref m_one, .ref m_kid, .ref m_beside, .ref m_clock, .ref m_state, .ref m_price, .ref m_high, .int x_parsed, .ref m_isTruth, .int x_placeNow, .ref m_full, .ref m_part, .ref m_low, .ref m_definedBy, .ref m_definedAs, .ref m_partsOf, .int x_main, .int x_instances, .int x_all, .int x_states, .int x_memories, .int x_calls, .int x_allParts, .ref m_nodeOf, .ref m_outer, .ref m_callOf, .ref m_base, .ref m_statesFrom, .ref m_callsFrom, .ref m_childOf, .ref m_instanceOf, .ref m_localOf, .ref m_causeFrom, .ref m_causeOf, .int x_causesTotal, .ref m_reached, .ref m_todo, .ref m_order, .ref m_undone, .int x_instants, .ref m_inputs, .ref m_value, .ref m_memory, .ref m_later, .ref m_worth, .ref m_here, .ref m_keptMemory, .ref m_keptValue, .ref m_keptHere, .int x_keptInstants, .int x_isKept])), (m_tape, .inl (cB, 65536, .inl (upd (fT f n va vb vc vd ve i) (nI (n + i)).toNatClampNeg (vp_nar .byte b1))))] := hD
  rw [fT_s (by omega) eb2, show nI (n + i) + 1 = nI (n + (i + 1)) from (nI_succ (n + i)).symm] at hP hD
  refine lv_iinc (k := 1) (x := (nI i)) (v := ((nI i) + 1)) (lv' := [(6, .int ((nI i) + 1)), (7, .int (fv va vb vc vd ve i)), (0, .ref g0), (1, .int va), (2, .int vb), (3, .int vc), (4, .int vd), (5, .int ve)]) hx hb d_M_feed_118 hl rfl (congrArg ((nI i) + ·) (by decide)) (by decide) rfl (fun ls hl => ?_)
  refine lv_goto (tgt := 33) hx hb d_M_feed_121 (by decide) ?_
  refine ih H locs ls ?_ hP hD hS
  rw [nI_succ]
  exact lv_sub hl [0, 2, 3, 4, 5, 6, 7] rfl

set_option maxHeartbeats 4000000 in
set_option maxRecDepth 100000 in
theorem lp_M_feed {p : Program} {l : Launch} {e : Env} {s : State} {m : MethodId} {args : Array Value} {below : List Frame} {meth : Method} {c : Code} {Q : State → Prop} {A : Nat → Prop} (D : va_G) (cI cB cJ cZ : ClassId) (hx : p.tables.exec = Jvm.exec) (hb : c.code = b_M_feed) (hml : c.maxLocals = 8) (hown : s.vm.findClass R_M = some m.cls) (hG : ∀ w ∈ gG, w.before args s = true) (hK : va_K D kl (tyL cI cB cJ cZ) s) (hA : ∀ q : Nat, s.heap.size ≤ q → A q) (g0 n : Nat) (m_tape m_nodeAt m_nodeSize m_variableFrom m_inputCount m_outputCount m_equationFrom m_callCount m_stateCount m_wordAt m_wordSize m_clockOf m_given m_truth m_placeOf m_leftFrom m_bodyOf m_lefts m_fromOf m_sort m_one m_kid m_beside m_clock m_state m_price m_high m_isTruth m_full m_part m_low m_definedBy m_definedAs m_partsOf m_nodeOf m_outer m_callOf m_base m_statesFrom m_callsFrom m_childOf m_instanceOf m_localOf m_causeFrom m_causeOf m_reached m_todo m_order m_undone m_inputs m_value m_memory m_later m_worth m_here m_keptMemory m_keptValue m_keptHere : Nat) (x_faultKind x_faultPlace x_pos x_token x_tokenAt x_tokenEnd x_seen x_nodes x_variables x_equations x_leftCount x_parsed x_placeNow x_main x_instances x_all x_states x_memories x_calls x_allParts x_causesTotal x_instants x_keptInstants x_isKept : Int32) (va vb vc vd ve : Int32) (f : Nat → Int32) (hn : n + 20 ≤ 65536) (kk : ∀ (H : Heap) (locs : List Loc) (ls : Array Slot), lv_has ls 8 [(6, .int (nI 20)), (0, .ref g0), (1, .int va), (2, .int vb), (3, .int vc), (4, .int vd), (5, .int ve)] → va_P D kl [(g0, .inr (12, [.ref m_tape, .int (nI (n + 20)), .int 0, .int x_faultKind, .int x_faultPlace, .int x_pos, .int x_token, .int x_tokenAt, .int x_tokenEnd, .int x_seen, .ref m_nodeAt, .ref m_nodeSize, .ref m_variableFrom, .ref m_inputCount, .ref m_outputCount, .ref m_equationFrom, .ref m_callCount, .ref m_stateCount, .int x_nodes, .int x_variables, .ref m_wordAt, .ref m_wordSize, .ref m_clockOf, .ref m_given, .ref m_truth, .ref m_placeOf, .ref m_leftFrom, .ref m_bodyOf, .ref m_lefts, .ref m_fromOf, .int x_equations, .int x_leftCount, .ref m_sort, .ref m_one, .ref m_kid, .ref m_beside, .ref m_clock, .ref m_state, .ref m_price, .ref m_high, .int x_parsed, .ref m_isTruth, .int x_placeNow, .ref m_full, .ref m_part, .ref m_low, .ref m_definedBy, .ref m_definedAs, .ref m_partsOf, .int x_main, .int x_instances, .int x_all, .int x_states, .int x_memories, .int x_calls, .int x_allParts, .ref m_nodeOf, .ref m_outer, .ref m_callOf, .ref m_base, .ref m_statesFrom, .ref m_callsFrom, .ref m_childOf, .ref m_instanceOf, .ref m_localOf, .ref m_causeFrom, .ref m_causeOf, .int x_causesTotal, .ref m_reached, .ref m_todo, .ref m_order, .ref m_undone, .int x_instants, .ref m_inputs, .ref m_value, .ref m_memory, .ref m_later, .ref m_worth, .ref m_here, .ref m_keptMemory, .ref m_keptValue, .ref m_keptHere, .int x_keptInstants, .int x_isKept])), (m_tape, .inl (cB, 65536, .inl (fT f n va vb vc vd ve 20)))] H → va_D A [(g0, .inr (12, [.ref m_tape, .int (nI (n + 20)), .int 0, .int x_faultKind, .int x_faultPlace, .int x_pos, .int x_token, .int x_tokenAt, .int x_tokenEnd, .int x_seen, .ref m_nodeAt, .ref m_nodeSize, .ref m_variableFrom, .ref m_inputCount, .ref m_outputCount, .ref m_equationFrom, .ref m_callCount, .ref m_stateCount, .int x_nodes, .int x_variables, .ref m_wordAt, .ref m_wordSize, .ref m_clockOf, .ref m_given, .ref m_truth, .ref m_placeOf, .ref m_leftFrom, .ref m_bodyOf, .ref m_lefts, .ref m_fromOf, .int x_equations, .int x_leftCount, .ref m_sort, .ref m_one, .ref m_kid, .ref m_beside, .ref m_clock, .ref m_state, .ref m_price, .ref m_high, .int x_parsed, .ref m_isTruth, .int x_placeNow, .ref m_full, .ref m_part, .ref m_low, .ref m_definedBy, .ref m_definedAs, .ref m_partsOf, .int x_main, .int x_instances, .int x_all, .int x_states, .int x_memories, .int x_calls, .int x_allParts, .ref m_nodeOf, .ref m_outer, .ref m_callOf, .ref m_base, .ref m_statesFrom, .ref m_callsFrom, .ref m_childOf, .ref m_instanceOf, .ref m_localOf, .ref m_causeFrom, .ref m_causeOf, .int x_causesTotal, .ref m_reached, .ref m_todo, .ref m_order, .ref m_undone, .int x_instants, .ref m_inputs, .ref m_value, .ref m_memory, .ref m_later, .ref m_worth, .ref m_here, .ref m_keptMemory, .ref m_keptValue, .ref m_keptHere, .int x_keptInstants, .int x_isKept])), (m_tape, .inl (cB, 65536, .inl (fT f n va vb vc vd ve 20)))] → va_S A s.heap H locs → W p l e ({ frames := 1, cells := 0, slots := 0, locals := 30 } : Room) s m args below meth c H locs 0 0 Q (F0 m 124 ls [])) : ∀ (k i : Nat) (H : Heap) (locs : List Loc) (ls : Array Slot), i + k = 20 → lv_has ls 8 [(6, .int (nI i)), (0, .ref g0), (1, .int va), (2, .int vb), (3, .int vc), (4, .int vd), (5, .int ve)] → va_P D kl [(g0, .inr (12, [.ref m_tape, .int (nI (n + i)), .int 0, .int x_faultKind, .int x_faultPlace, .int x_pos, .int x_token, .int x_tokenAt, .int x_tokenEnd, .int x_seen, .ref m_nodeAt, .ref m_nodeSize, .ref m_variableFrom, .ref m_inputCount, .ref m_outputCount, .ref m_equationFrom, .ref m_callCount, .ref m_stateCount, .int x_nodes, .int x_variables, .ref m_wordAt, .ref m_wordSize, .ref m_clockOf, .ref m_given, .ref m_truth, .ref m_placeOf, .ref m_leftFrom, .ref m_bodyOf, .ref m_lefts, .ref m_fromOf, .int x_equations, .int x_leftCount, .ref m_sort, .ref m_one, .ref m_kid, .ref m_beside, .ref m_clock, .ref m_state, .ref m_price, .ref m_high, .int x_parsed, .ref m_isTruth, .int x_placeNow, .ref m_full, .ref m_part, .ref m_low, .ref m_definedBy, .ref m_definedAs, .ref m_partsOf, .int x_main, .int x_instances, .int x_all, .int x_states, .int x_memories, .int x_calls, .int x_allParts, .ref m_nodeOf, .ref m_outer, .ref m_callOf, .ref m_base, .ref m_statesFrom, .ref m_callsFrom, .ref m_childOf, .ref m_instanceOf, .ref m_localOf, .ref m_causeFrom, .ref m_causeOf, .int x_causesTotal, .ref m_reached, .ref m_todo, .ref m_order, .ref m_undone, .int x_instants, .ref m_inputs, .ref m_value, .ref m_memory, .ref m_later, .ref m_worth, .ref m_here, .ref m_keptMemory, .ref m_keptValue, .ref m_keptHere, .int x_keptInstants, .int x_isKept])), (m_tape, .inl (cB, 65536, .inl (fT f n va vb vc vd ve i)))] H → va_D A [(g0, .inr (12, [.ref m_tape, .int (nI (n + i)), .int 0, .int x_faultKind, .int x_faultPlace, .int x_pos, .int x_token, .int x_tokenAt, .int x_tokenEnd, .int x_seen, .ref m_nodeAt, .ref m_nodeSize, .ref m_variableFrom, .ref m_inputCount, .ref m_outputCount, .ref m_equationFrom, .ref m_callCount, .ref m_stateCount, .int x_nodes, .int x_variables, .ref m_wordAt, .ref m_wordSize, .ref m_clockOf, .ref m_given, .ref m_truth, .ref m_placeOf, .ref m_leftFrom, .ref m_bodyOf, .ref m_lefts, .ref m_fromOf, .int x_equations, .int x_leftCount, .ref m_sort, .ref m_one, .ref m_kid, .ref m_beside, .ref m_clock, .ref m_state, .ref m_price, .ref m_high, .int x_parsed, .ref m_isTruth, .int x_placeNow, .ref m_full, .ref m_part, .ref m_low, .ref m_definedBy, .ref m_definedAs, .ref m_partsOf, .int x_main, .int x_instances, .int x_all, .int x_states, .int x_memories, .int x_calls, .int x_allParts, .ref m_nodeOf, .ref m_outer, .ref m_callOf, .ref m_base, .ref m_statesFrom, .ref m_callsFrom, .ref m_childOf, .ref m_instanceOf, .ref m_localOf, .ref m_causeFrom, .ref m_causeOf, .int x_causesTotal, .ref m_reached, .ref m_todo, .ref m_order, .ref m_undone, .int x_instants, .ref m_inputs, .ref m_value, .ref m_memory, .ref m_later, .ref m_worth, .ref m_here, .ref m_keptMemory, .ref m_keptValue, .ref m_keptHere, .int x_keptInstants, .int x_isKept])), (m_tape, .inl (cB, 65536, .inl (fT f n va vb vc vd ve i)))] → va_S A s.heap H locs → W p l e ({ frames := 1, cells := 0, slots := 0, locals := 30 } : Room) s m args below meth c H locs 0 0 Q (F0 m 33 ls []) := by
  intro k
  induction k with
  | zero =>
    intro i H locs ls hi hl hP hD hS
    obtain rfl : i = 20 := by omega
    refine lv_iload hx hb d_M_feed_33 (lv_at hl 0 rfl) ?_
    refine lv_bipush (v := 20) hx hb d_M_feed_35 (by decide) ?_
    exact lv_icmp_ge (tgt := 124) hx hb d_M_feed_37 (by decide) (fun _ => kk H locs ls hl hP hD hS) (fun h9 => absurd (nI_le (a := 20) (b := 20) (Nat.le_refl 20) (by decide)) h9)
  | succ k ih =>
    intro i H locs ls hi hl hP hD hS
    have hi2 : i < 20 := by omega
    have tl := tl_M_feed D cI cB cJ cZ hx hb hml hown hG hK hA g0 n m_tape m_nodeAt m_nodeSize m_variableFrom m_inputCount m_outputCount m_equationFrom m_callCount m_stateCount m_wordAt m_wordSize m_clockOf m_given m_truth m_placeOf m_leftFrom m_bodyOf m_lefts m_fromOf m_sort m_one m_kid m_beside m_clock m_state m_price m_high m_isTruth m_full m_part m_low m_definedBy m_definedAs m_partsOf m_nodeOf m_outer m_callOf m_base m_statesFrom m_callsFrom m_childOf m_instanceOf m_localOf m_causeFrom m_causeOf m_reached m_todo m_order m_undone m_inputs m_value m_memory m_later m_worth m_here m_keptMemory m_keptValue m_keptHere x_faultKind x_faultPlace x_pos x_token x_tokenAt x_tokenEnd x_seen x_nodes x_variables x_equations x_leftCount x_parsed x_placeNow x_main x_instances x_all x_states x_memories x_calls x_allParts x_causesTotal x_instants x_keptInstants x_isKept va vb vc vd ve f hn i hi2 (fun H locs ls => ih (i + 1) H locs ls (by omega)) H locs ls hl hP hD hS
    refine lv_iload hx hb d_M_feed_33 (lv_at hl 0 rfl) ?_
    refine lv_bipush (v := 20) hx hb d_M_feed_35 (by decide) ?_
    refine lv_icmp_ge (tgt := 124) hx hb d_M_feed_37 (by decide) (fun zz1 => absurd zz1 (nI_ge (b := 20) hi2 (by decide))) (fun _ => ?_)
    refine lv_iload hx hb d_M_feed_40 (lv_at hl 0 rfl) ?_
    refine lv_iconst (v := 4) hx hb d_M_feed_42 (by decide) ?_
    refine lv_icmp_ge (tgt := 50) hx hb d_M_feed_43 (by decide) (fun zc0 => ?_) (fun zc0 => ?_)
    · have hb0 : 4 ≤ i := by
        apply Nat.le_of_not_lt; intro z; exact nI_ge (b := 4) z (by decide) zc0
      refine lv_iload hx hb d_M_feed_50 (lv_at hl 0 rfl) ?_
      refine lv_bipush (v := 8) hx hb d_M_feed_52 (by decide) ?_
      refine lv_icmp_ge (tgt := 61) hx hb d_M_feed_54 (by decide) (fun zc1 => ?_) (fun zc1 => ?_)
      · have hb1 : 8 ≤ i := by
          apply Nat.le_of_not_lt; intro z; exact nI_ge (b := 8) z (by decide) zc1
        refine lv_iload hx hb d_M_feed_61 (lv_at hl 0 rfl) ?_
        refine lv_bipush (v := 12) hx hb d_M_feed_63 (by decide) ?_
        refine lv_icmp_ge (tgt := 72) hx hb d_M_feed_65 (by decide) (fun zc2 => ?_) (fun zc2 => ?_)
        · have hb2 : 12 ≤ i := by
            apply Nat.le_of_not_lt; intro z; exact nI_ge (b := 12) z (by decide) zc2
          refine lv_iload hx hb d_M_feed_72 (lv_at hl 0 rfl) ?_
          refine lv_bipush (v := 16) hx hb d_M_feed_74 (by decide) ?_
          refine lv_icmp_ge (tgt := 84) hx hb d_M_feed_76 (by decide) (fun zc3 => ?_) (fun zc3 => ?_)
          · have hb3 : 16 ≤ i := by
              apply Nat.le_of_not_lt; intro z; exact nI_ge (b := 16) z (by decide) zc3
            refine lv_iload hx hb d_M_feed_84 (lv_at hl 6 rfl) ?_
            have e5 : fv va vb vc vd ve i = ve := by
              unfold fv
              rw [if_neg (by omega), if_neg (by omega), if_neg (by omega), if_neg (by omega)]
            rw [e5] at tl
            exact tl
          · refine lv_iload hx hb d_M_feed_79 (lv_at hl 5 rfl) ?_
            refine lv_goto (tgt := 86) hx hb d_M_feed_81 (by decide) ?_
            have e5 : fv va vb vc vd ve i = vd := by
              have hs : i < 16 := by
                apply Nat.lt_of_not_le; intro z; exact zc3 (nI_le (a := 16) z (by omega))
              unfold fv
              rw [if_neg (by omega), if_neg (by omega), if_neg (by omega), if_pos hs]
            rw [e5] at tl
            exact tl
        · refine lv_iload_n hx hb d_M_feed_68 rfl (lv_at hl 4 rfl) ?_
          refine lv_goto (tgt := 86) hx hb d_M_feed_69 (by decide) ?_
          have e5 : fv va vb vc vd ve i = vc := by
            have hs : i < 12 := by
              apply Nat.lt_of_not_le; intro z; exact zc2 (nI_le (a := 12) z (by omega))
            unfold fv
            rw [if_neg (by omega), if_neg (by omega), if_pos hs]
          rw [e5] at tl
          exact tl
      · refine lv_iload_n hx hb d_M_feed_57 rfl (lv_at hl 3 rfl) ?_
        refine lv_goto (tgt := 86) hx hb d_M_feed_58 (by decide) ?_
        have e5 : fv va vb vc vd ve i = vb := by
          have hs : i < 8 := by
            apply Nat.lt_of_not_le; intro z; exact zc1 (nI_le (a := 8) z (by omega))
          unfold fv
          rw [if_neg (by omega), if_pos hs]
        rw [e5] at tl
        exact tl
    · refine lv_iload_n hx hb d_M_feed_46 rfl (lv_at hl 2 rfl) ?_
      refine lv_goto (tgt := 86) hx hb d_M_feed_47 (by decide) ?_
      have e5 : fv va vb vc vd ve i = va := by
        have hs : i < 4 := by
          apply Nat.lt_of_not_le; intro z; exact zc0 (nI_le (a := 4) z (by omega))
        unfold fv
        rw [if_pos hs]
      rw [e5] at tl
      exact tl

set_option maxHeartbeats 4000000 in
set_option maxRecDepth 100000 in
theorem c_M_feed (l : Launch) (D : va_G) (cI cB cJ cZ : ClassId) (sz : Nat) (g0 n : Nat) (m_tape m_nodeAt m_nodeSize m_variableFrom m_inputCount m_outputCount m_equationFrom m_callCount m_stateCount m_wordAt m_wordSize m_clockOf m_given m_truth m_placeOf m_leftFrom m_bodyOf m_lefts m_fromOf m_sort m_one m_kid m_beside m_clock m_state m_price m_high m_isTruth m_full m_part m_low m_definedBy m_definedAs m_partsOf m_nodeOf m_outer m_callOf m_base m_statesFrom m_callsFrom m_childOf m_instanceOf m_localOf m_causeFrom m_causeOf m_reached m_todo m_order m_undone m_inputs m_value m_memory m_later m_worth m_here m_keptMemory m_keptValue m_keptHere : Nat) (x_thrown x_faultKind x_faultPlace x_pos x_token x_tokenAt x_tokenEnd x_seen x_nodes x_variables x_equations x_leftCount x_parsed x_placeNow x_main x_instances x_all x_states x_memories x_calls x_allParts x_causesTotal x_instants x_keptInstants x_isKept : Int32) (va vb vc vd ve : Int32) (f : Nat → Int32) (hn : n + 20 ≤ 65536) : Met l y_M_feed (Cond.code y_M_feed b_M_feed 8 (some .int) :: gG) { frames := 1, cells := 0, slots := 0, locals := 30 } (va_Pc [.ref g0, .int va, .int vb, .int vc, .int vd, .int ve] (ct_P D (tyL cI cB cJ cZ) [(g0, .inr (12, [.ref m_tape, .int (nI n), .int x_thrown, .int x_faultKind, .int x_faultPlace, .int x_pos, .int x_token, .int x_tokenAt, .int x_tokenEnd, .int x_seen, .ref m_nodeAt, .ref m_nodeSize, .ref m_variableFrom, .ref m_inputCount, .ref m_outputCount, .ref m_equationFrom, .ref m_callCount, .ref m_stateCount, .int x_nodes, .int x_variables, .ref m_wordAt, .ref m_wordSize, .ref m_clockOf, .ref m_given, .ref m_truth, .ref m_placeOf, .ref m_leftFrom, .ref m_bodyOf, .ref m_lefts, .ref m_fromOf, .int x_equations, .int x_leftCount, .ref m_sort, .ref m_one, .ref m_kid, .ref m_beside, .ref m_clock, .ref m_state, .ref m_price, .ref m_high, .int x_parsed, .ref m_isTruth, .int x_placeNow, .ref m_full, .ref m_part, .ref m_low, .ref m_definedBy, .ref m_definedAs, .ref m_partsOf, .int x_main, .int x_instances, .int x_all, .int x_states, .int x_memories, .int x_calls, .int x_allParts, .ref m_nodeOf, .ref m_outer, .ref m_callOf, .ref m_base, .ref m_statesFrom, .ref m_callsFrom, .ref m_childOf, .ref m_instanceOf, .ref m_localOf, .ref m_causeFrom, .ref m_causeOf, .int x_causesTotal, .ref m_reached, .ref m_todo, .ref m_order, .ref m_undone, .int x_instants, .ref m_inputs, .ref m_value, .ref m_memory, .ref m_later, .ref m_worth, .ref m_here, .ref m_keptMemory, .ref m_keptValue, .ref m_keptHere, .int x_keptInstants, .int x_isKept])), (m_tape, .inl (cB, 65536, .inl f))] sz)) (va_Qi (fun (r : Int32) (_ : Unit) => r = nI (n + 20)) (fun _ t => va_P D kl [(g0, .inr (12, [.ref m_tape, .int (nI (n + 20)), .int 0, .int x_faultKind, .int x_faultPlace, .int x_pos, .int x_token, .int x_tokenAt, .int x_tokenEnd, .int x_seen, .ref m_nodeAt, .ref m_nodeSize, .ref m_variableFrom, .ref m_inputCount, .ref m_outputCount, .ref m_equationFrom, .ref m_callCount, .ref m_stateCount, .int x_nodes, .int x_variables, .ref m_wordAt, .ref m_wordSize, .ref m_clockOf, .ref m_given, .ref m_truth, .ref m_placeOf, .ref m_leftFrom, .ref m_bodyOf, .ref m_lefts, .ref m_fromOf, .int x_equations, .int x_leftCount, .ref m_sort, .ref m_one, .ref m_kid, .ref m_beside, .ref m_clock, .ref m_state, .ref m_price, .ref m_high, .int x_parsed, .ref m_isTruth, .int x_placeNow, .ref m_full, .ref m_part, .ref m_low, .ref m_definedBy, .ref m_definedAs, .ref m_partsOf, .int x_main, .int x_instances, .int x_all, .int x_states, .int x_memories, .int x_calls, .int x_allParts, .ref m_nodeOf, .ref m_outer, .ref m_callOf, .ref m_base, .ref m_statesFrom, .ref m_callsFrom, .ref m_childOf, .ref m_instanceOf, .ref m_localOf, .ref m_causeFrom, .ref m_causeOf, .int x_causesTotal, .ref m_reached, .ref m_todo, .ref m_order, .ref m_undone, .int x_instants, .ref m_inputs, .ref m_value, .ref m_memory, .ref m_later, .ref m_worth, .ref m_here, .ref m_keptMemory, .ref m_keptValue, .ref m_keptHere, .int x_keptInstants, .int x_isKept])), (m_tape, .inl (cB, 65536, .inl (ap4 (ap4 (ap4 (ap4 (ap4 f n va) (n + 4) vb) (n + 8) vc) (n + 12) vd) (n + 16) ve)))] t.heap ∧ va_D (va_A [(g0, .inr (12, [.ref m_tape, .int (nI n), .int x_thrown, .int x_faultKind, .int x_faultPlace, .int x_pos, .int x_token, .int x_tokenAt, .int x_tokenEnd, .int x_seen, .ref m_nodeAt, .ref m_nodeSize, .ref m_variableFrom, .ref m_inputCount, .ref m_outputCount, .ref m_equationFrom, .ref m_callCount, .ref m_stateCount, .int x_nodes, .int x_variables, .ref m_wordAt, .ref m_wordSize, .ref m_clockOf, .ref m_given, .ref m_truth, .ref m_placeOf, .ref m_leftFrom, .ref m_bodyOf, .ref m_lefts, .ref m_fromOf, .int x_equations, .int x_leftCount, .ref m_sort, .ref m_one, .ref m_kid, .ref m_beside, .ref m_clock, .ref m_state, .ref m_price, .ref m_high, .int x_parsed, .ref m_isTruth, .int x_placeNow, .ref m_full, .ref m_part, .ref m_low, .ref m_definedBy, .ref m_definedAs, .ref m_partsOf, .int x_main, .int x_instances, .int x_all, .int x_states, .int x_memories, .int x_calls, .int x_allParts, .ref m_nodeOf, .ref m_outer, .ref m_callOf, .ref m_base, .ref m_statesFrom, .ref m_callsFrom, .ref m_childOf, .ref m_instanceOf, .ref m_localOf, .ref m_causeFrom, .ref m_causeOf, .int x_causesTotal, .ref m_reached, .ref m_todo, .ref m_order, .ref m_undone, .int x_instants, .ref m_inputs, .ref m_value, .ref m_memory, .ref m_later, .ref m_worth, .ref m_here, .ref m_keptMemory, .ref m_keptValue, .ref m_keptHere, .int x_keptInstants, .int x_isKept])), (m_tape, .inl (cB, 65536, .inl f))] sz) [(g0, .inr (12, [.ref m_tape, .int (nI (n + 20)), .int 0, .int x_faultKind, .int x_faultPlace, .int x_pos, .int x_token, .int x_tokenAt, .int x_tokenEnd, .int x_seen, .ref m_nodeAt, .ref m_nodeSize, .ref m_variableFrom, .ref m_inputCount, .ref m_outputCount, .ref m_equationFrom, .ref m_callCount, .ref m_stateCount, .int x_nodes, .int x_variables, .ref m_wordAt, .ref m_wordSize, .ref m_clockOf, .ref m_given, .ref m_truth, .ref m_placeOf, .ref m_leftFrom, .ref m_bodyOf, .ref m_lefts, .ref m_fromOf, .int x_equations, .int x_leftCount, .ref m_sort, .ref m_one, .ref m_kid, .ref m_beside, .ref m_clock, .ref m_state, .ref m_price, .ref m_high, .int x_parsed, .ref m_isTruth, .int x_placeNow, .ref m_full, .ref m_part, .ref m_low, .ref m_definedBy, .ref m_definedAs, .ref m_partsOf, .int x_main, .int x_instances, .int x_all, .int x_states, .int x_memories, .int x_calls, .int x_allParts, .ref m_nodeOf, .ref m_outer, .ref m_callOf, .ref m_base, .ref m_statesFrom, .ref m_callsFrom, .ref m_childOf, .ref m_instanceOf, .ref m_localOf, .ref m_causeFrom, .ref m_causeOf, .int x_causesTotal, .ref m_reached, .ref m_todo, .ref m_order, .ref m_undone, .int x_instants, .ref m_inputs, .ref m_value, .ref m_memory, .ref m_later, .ref m_worth, .ref m_here, .ref m_keptMemory, .ref m_keptValue, .ref m_keptHere, .int x_keptInstants, .int x_isKept])), (m_tape, .inl (cB, 65536, .inl (ap4 (ap4 (ap4 (ap4 (ap4 f n va) (n + 4) vb) (n + 8) vc) (n + 12) vd) (n + 16) ve)))]) (va_A [(g0, .inr (12, [.ref m_tape, .int (nI n), .int x_thrown, .int x_faultKind, .int x_faultPlace, .int x_pos, .int x_token, .int x_tokenAt, .int x_tokenEnd, .int x_seen, .ref m_nodeAt, .ref m_nodeSize, .ref m_variableFrom, .ref m_inputCount, .ref m_outputCount, .ref m_equationFrom, .ref m_callCount, .ref m_stateCount, .int x_nodes, .int x_variables, .ref m_wordAt, .ref m_wordSize, .ref m_clockOf, .ref m_given, .ref m_truth, .ref m_placeOf, .ref m_leftFrom, .ref m_bodyOf, .ref m_lefts, .ref m_fromOf, .int x_equations, .int x_leftCount, .ref m_sort, .ref m_one, .ref m_kid, .ref m_beside, .ref m_clock, .ref m_state, .ref m_price, .ref m_high, .int x_parsed, .ref m_isTruth, .int x_placeNow, .ref m_full, .ref m_part, .ref m_low, .ref m_definedBy, .ref m_definedAs, .ref m_partsOf, .int x_main, .int x_instances, .int x_all, .int x_states, .int x_memories, .int x_calls, .int x_allParts, .ref m_nodeOf, .ref m_outer, .ref m_callOf, .ref m_base, .ref m_statesFrom, .ref m_callsFrom, .ref m_childOf, .ref m_instanceOf, .ref m_localOf, .ref m_causeFrom, .ref m_causeOf, .int x_causesTotal, .ref m_reached, .ref m_todo, .ref m_order, .ref m_undone, .int x_instants, .ref m_inputs, .ref m_value, .ref m_memory, .ref m_later, .ref m_worth, .ref m_here, .ref m_keptMemory, .ref m_keptValue, .ref m_keptHere, .int x_keptInstants, .int x_isKept])), (m_tape, .inl (cB, 65536, .inl f))] sz)) 0 0 (va_A [(g0, .inr (12, [.ref m_tape, .int (nI n), .int x_thrown, .int x_faultKind, .int x_faultPlace, .int x_pos, .int x_token, .int x_tokenAt, .int x_tokenEnd, .int x_seen, .ref m_nodeAt, .ref m_nodeSize, .ref m_variableFrom, .ref m_inputCount, .ref m_outputCount, .ref m_equationFrom, .ref m_callCount, .ref m_stateCount, .int x_nodes, .int x_variables, .ref m_wordAt, .ref m_wordSize, .ref m_clockOf, .ref m_given, .ref m_truth, .ref m_placeOf, .ref m_leftFrom, .ref m_bodyOf, .ref m_lefts, .ref m_fromOf, .int x_equations, .int x_leftCount, .ref m_sort, .ref m_one, .ref m_kid, .ref m_beside, .ref m_clock, .ref m_state, .ref m_price, .ref m_high, .int x_parsed, .ref m_isTruth, .int x_placeNow, .ref m_full, .ref m_part, .ref m_low, .ref m_definedBy, .ref m_definedAs, .ref m_partsOf, .int x_main, .int x_instances, .int x_all, .int x_states, .int x_memories, .int x_calls, .int x_allParts, .ref m_nodeOf, .ref m_outer, .ref m_callOf, .ref m_base, .ref m_statesFrom, .ref m_callsFrom, .ref m_childOf, .ref m_instanceOf, .ref m_localOf, .ref m_causeFrom, .ref m_causeOf, .int x_causesTotal, .ref m_reached, .ref m_todo, .ref m_order, .ref m_undone, .int x_instants, .ref m_inputs, .ref m_value, .ref m_memory, .ref m_later, .ref m_worth, .ref m_here, .ref m_keptMemory, .ref m_keptValue, .ref m_keptHere, .int x_keptInstants, .int x_isKept])), (m_tape, .inl (cB, 65536, .inl f))] sz) := by
  refine Met.ofW (cc := b_M_feed) (maxL := 8) (ret := (some .int)) (by decide) rfl ?_
  intro p e s m args below meth c s₁ B hml hv
  obtain ⟨rfl, hsz, hP, hK, hD0⟩ := hv
  have hx := B.exec
  have hb := B.bytes
  have hr := B.returns
  have hts := atoms_spec (ws := Cond.code y_M_feed b_M_feed 8 (some .int) :: gG) B.pre
  have hG : ∀ w ∈ gG, w.before [.ref g0, .int va, .int vb, .int vc, .int vd, .int ve].toArray s = true := fun w h => hts w (List.mem_cons_of_mem _ h)
  have hown : s.vm.findClass R_M = some m.cls := findClass_of_methodNamed B.named
  have hlocks := B.notSynchronized
  subst hsz
  have hD := hD0.self (sz := s.heap.size)
  generalize hAe : va_A [(g0, .inr (12, [.ref m_tape, .int (nI n), .int x_thrown, .int x_faultKind, .int x_faultPlace, .int x_pos, .int x_token, .int x_tokenAt, .int x_tokenEnd, .int x_seen, .ref m_nodeAt, .ref m_nodeSize, .ref m_variableFrom, .ref m_inputCount, .ref m_outputCount, .ref m_equationFrom, .ref m_callCount, .ref m_stateCount, .int x_nodes, .int x_variables, .ref m_wordAt, .ref m_wordSize, .ref m_clockOf, .ref m_given, .ref m_truth, .ref m_placeOf, .ref m_leftFrom, .ref m_bodyOf, .ref m_lefts, .ref m_fromOf, .int x_equations, .int x_leftCount, .ref m_sort, .ref m_one, .ref m_kid, .ref m_beside, .ref m_clock, .ref m_state, .ref m_price, .ref m_high, .int x_parsed, .ref m_isTruth, .int x_placeNow, .ref m_full, .ref m_part, .ref m_low, .ref m_definedBy, .ref m_definedAs, .ref m_partsOf, .int x_main, .int x_instances, .int x_all, .int x_states, .int x_memories, .int x_calls, .int x_allParts, .ref m_nodeOf, .ref m_outer, .ref m_callOf, .ref m_base, .ref m_statesFrom, .ref m_callsFrom, .ref m_childOf, .ref m_instanceOf, .ref m_localOf, .ref m_causeFrom, .ref m_causeOf, .int x_causesTotal, .ref m_reached, .ref m_todo, .ref m_order, .ref m_undone, .int x_instants, .ref m_inputs, .ref m_value, .ref m_memory, .ref m_later, .ref m_worth, .ref m_here, .ref m_keptMemory, .ref m_keptValue, .ref m_keptHere, .int x_keptInstants, .int x_isKept])), (m_tape, .inl (cB, 65536, .inl f))] s.heap.size = A at hD ⊢
  have hA : ∀ q : Nat, s.heap.size ≤ q → A q := fun q h => by rw [← hAe]; exact Or.inr h
  have hS : va_S A s.heap s.heap [] := va_S.rf
  have hl := lv_entry ([.ref g0, .int va, .int vb, .int vc, .int vd, .int ve]) (n := 8) (Nat.le_of_ble_eq_true rfl)
  rw [lg_entry_eq]
  generalize (lg_sl ([.ref g0, .int va, .int vb, .int vc, .int vd, .int ve]) ++ List.replicate (8 - (lg_sl ([.ref g0, .int va, .int vb, .int vc, .int vd, .int ve])).length) Slot.unset).toArray = ls at hl ⊢
  have hl : lv_has ls 8 [(0, .ref g0), (1, .int va), (2, .int vb), (3, .int vc), (4, .int vd), (5, .int ve)] := hl
  refine lv_aload_n hx hb d_M_feed_0 rfl (lv_at hl 0 rfl) ?_
  refine lv_iconst (v := 0) hx hb d_M_feed_1 (by decide) ?_
  refine va_put (D := D) (ci := 12) (v := .int 0) (ty := .int) (C := R_M) (T := T_M) (N := 84) hx hb hG gi_M ty_M to_M nm_M hown hK hP hD hS 0 rfl rfl 2 (by decide) (hG _ fl_M_18) (fun _ h9 => h9) rfl (by decide +kernel) rfl rfl (Nat.le_of_ble_eq_true rfl) d_M_feed_2 (fun H locs hP hD hS => ?_)
  have hP : va_P D kl [(g0, .inr (12, [.ref m_tape, .int (nI n), .int 0, .int x_faultKind, .int x_faultPlace, .int x_pos, .int x_token, .int x_tokenAt, .int x_tokenEnd, .int x_seen, .ref m_nodeAt, .ref m_nodeSize, .ref m_variableFrom, .ref m_inputCount, .ref m_outputCount, .ref m_equationFrom, .ref m_callCount, .ref m_stateCount, .int x_nodes, .int x_variables, .ref m_wordAt, .ref m_wordSize, .ref m_clockOf, .ref m_given, .ref m_truth, .ref m_placeOf, .ref m_leftFrom, .ref m_bodyOf, .ref m_lefts, .ref m_fromOf, .int x_equations, .int x_leftCount, .ref m_sort, .ref m_one, .ref m_kid, .ref m_beside, .ref m_clock, .ref m_state, .ref m_price, .ref m_high, .int x_parsed, .ref m_isTruth, .int x_placeNow, .ref m_full, .ref m_part, .ref m_low, .ref m_definedBy, .ref m_definedAs, .ref m_partsOf, .int x_main, .int x_instances, .int x_all, .int x_states, .int x_memories, .int x_calls, .int x_allParts, .ref m_nodeOf, .ref m_outer, .ref m_callOf, .ref m_base, .ref m_statesFrom, .ref m_callsFrom, .ref m_childOf, .ref m_instanceOf, .ref m_localOf, .ref m_causeFrom, .ref m_causeOf, .int x_causesTotal, .ref m_reached, .ref m_todo, .ref m_order, .ref m_undone, .int x_instants, .ref m_inputs, .ref m_value, .ref m_memory, .ref m_later, .ref m_worth, .ref m_here, .ref m_keptMemory, .ref m_keptValue, .ref m_keptHere, .int x_keptInstants, .int x_isKept])), (m_tape, .inl (cB, 65536, .inl f))] H := hP
  have hD : va_D A [(g0, .inr (12, [.ref m_tape, .int (nI n), .int 0, .int x_faultKind, .int x_faultPlace, .int x_pos, .int x_token, .int x_tokenAt, .int x_tokenEnd, .int x_seen, .ref m_nodeAt, .ref m_nodeSize, .ref m_variableFrom, .ref m_inputCount, .ref m_outputCount, .ref m_equationFrom, .ref m_callCount, .ref m_stateCount, .int x_nodes, .int x_variables, .ref m_wordAt, .ref m_wordSize, .ref m_clockOf, .ref m_given, .ref m_truth, .ref m_placeOf, .ref m_leftFrom, .ref m_bodyOf, .ref m_lefts, .ref m_fromOf, .int x_equations, .int x_leftCount, .ref m_sort, .ref m_one, .ref m_kid, .ref m_beside, .ref m_clock, .ref m_state, .ref m_price, .ref m_high, .int x_parsed, .ref m_isTruth, .int x_placeNow, .ref m_full, .ref m_part, .ref m_low, .ref m_definedBy, .ref m_definedAs, .ref m_partsOf, .int x_main, .int x_instances, .int x_all, .int x_states, .int x_memories, .int x_calls, .int x_allParts, .ref m_nodeOf, .ref m_outer, .ref m_callOf, .ref m_base, .ref m_statesFrom, .ref m_callsFrom, .ref m_childOf, .ref m_instanceOf, .ref m_localOf, .ref m_causeFrom, .ref m_causeOf, .int x_causesTotal, .ref m_reached, .ref m_todo, .ref m_order, .ref m_undone, .int x_instants, .ref m_inputs, .ref m_value, .ref m_memory, .ref m_later, .ref m_worth, .ref m_here, .ref m_keptMemory, .ref m_keptValue, .ref m_keptHere, .int x_keptInstants, .int x_isKept])), (m_tape, .inl (cB, 65536, .inl f))] := hD
  refine lv_aload_n hx hb d_M_feed_5 rfl (lv_at hl 0 rfl) ?_
  refine lv_iconst (v := 1) hx hb d_M_feed_6 (by decide) ?_
  refine lv_aload_n hx hb d_M_feed_7 rfl (lv_at hl 0 rfl) ?_
  refine va_get (D := D) (ci := 12) (v := .int (nI n)) (C := R_M) (T := T_M) (N := 84) hx hb hG gi_M hown hK hP 0 rfl rfl 1 (by decide) (hG _ fl_M_14) (fun _ h9 => h9) rfl d_M_feed_8 ?_
  refine lv_ldcw (v := 65516) hx hb hown (hG _ ct_M_269) d_M_feed_11 ?_
  refine lv_icmp_le (tgt := 21) hx hb d_M_feed_14 (by decide) (fun _ => ?_) (fun zz1 => absurd (nI_le (b := 65516) (by omega) (by decide)) zz1)
  refine lv_iconst (v := 0) hx hb d_M_feed_21 (by decide) ?_
  have hPc := hP.sub (ws' := [(g0, .inr (12, [.ref m_tape, .int (nI n), .int 0, .int x_faultKind, .int x_faultPlace, .int x_pos, .int x_token, .int x_tokenAt, .int x_tokenEnd, .int x_seen, .ref m_nodeAt, .ref m_nodeSize, .ref m_variableFrom, .ref m_inputCount, .ref m_outputCount, .ref m_equationFrom, .ref m_callCount, .ref m_stateCount, .int x_nodes, .int x_variables, .ref m_wordAt, .ref m_wordSize, .ref m_clockOf, .ref m_given, .ref m_truth, .ref m_placeOf, .ref m_leftFrom, .ref m_bodyOf, .ref m_lefts, .ref m_fromOf, .int x_equations, .int x_leftCount, .ref m_sort, .ref m_one, .ref m_kid, .ref m_beside, .ref m_clock, .ref m_state, .ref m_price, .ref m_high, .int x_parsed, .ref m_isTruth, .int x_placeNow, .ref m_full, .ref m_part, .ref m_low, .ref m_definedBy, .ref m_definedAs, .ref m_partsOf, .int x_main, .int x_instances, .int x_all, .int x_states, .int x_memories, .int x_calls, .int x_allParts, .ref m_nodeOf, .ref m_outer, .ref m_callOf, .ref m_base, .ref m_statesFrom, .ref m_callsFrom, .ref m_childOf, .ref m_instanceOf, .ref m_localOf, .ref m_causeFrom, .ref m_causeOf, .int x_causesTotal, .ref m_reached, .ref m_todo, .ref m_order, .ref m_undone, .int x_instants, .ref m_inputs, .ref m_value, .ref m_memory, .ref m_later, .ref m_worth, .ref m_here, .ref m_keptMemory, .ref m_keptValue, .ref m_keptHere, .int x_keptInstants, .int x_isKept]))]) [0] rfl
  have hDc := hD.sub (ws' := [(g0, .inr (12, [.ref m_tape, .int (nI n), .int 0, .int x_faultKind, .int x_faultPlace, .int x_pos, .int x_token, .int x_tokenAt, .int x_tokenEnd, .int x_seen, .ref m_nodeAt, .ref m_nodeSize, .ref m_variableFrom, .ref m_inputCount, .ref m_outputCount, .ref m_equationFrom, .ref m_callCount, .ref m_stateCount, .int x_nodes, .int x_variables, .ref m_wordAt, .ref m_wordSize, .ref m_clockOf, .ref m_given, .ref m_truth, .ref m_placeOf, .ref m_leftFrom, .ref m_bodyOf, .ref m_lefts, .ref m_fromOf, .int x_equations, .int x_leftCount, .ref m_sort, .ref m_one, .ref m_kid, .ref m_beside, .ref m_clock, .ref m_state, .ref m_price, .ref m_high, .int x_parsed, .ref m_isTruth, .int x_placeNow, .ref m_full, .ref m_part, .ref m_low, .ref m_definedBy, .ref m_definedAs, .ref m_partsOf, .int x_main, .int x_instances, .int x_all, .int x_states, .int x_memories, .int x_calls, .int x_allParts, .ref m_nodeOf, .ref m_outer, .ref m_callOf, .ref m_base, .ref m_statesFrom, .ref m_callsFrom, .ref m_childOf, .ref m_instanceOf, .ref m_localOf, .ref m_causeFrom, .ref m_causeOf, .int x_causesTotal, .ref m_reached, .ref m_todo, .ref m_order, .ref m_undone, .int x_instants, .ref m_inputs, .ref m_value, .ref m_memory, .ref m_later, .ref m_worth, .ref m_here, .ref m_keptMemory, .ref m_keptValue, .ref m_keptHere, .int x_keptInstants, .int x_isKept]))]) [0] (by decide) rfl
  refine W.callR (W.runV (As := [.int 1, .int 0]) (rest := []) (C := R_M) ⟨hx, hb, hml, hown, hG⟩ (c_M_refuse0 l D cI cB cJ cZ H.size g0 m_tape m_nodeAt m_nodeSize m_variableFrom m_inputCount m_outputCount m_equationFrom m_callCount m_stateCount m_wordAt m_wordSize m_clockOf m_given m_truth m_placeOf m_leftFrom m_bodyOf m_lefts m_fromOf m_sort m_one m_kid m_beside m_clock m_state m_price m_high m_isTruth m_full m_part m_low m_definedBy m_definedAs m_partsOf m_nodeOf m_outer m_callOf m_base m_statesFrom m_callsFrom m_childOf m_instanceOf m_localOf m_causeFrom m_causeOf m_reached m_todo m_order m_undone m_inputs m_value m_memory m_later m_worth m_here m_keptMemory m_keptValue m_keptHere (nI n) 0 x_faultKind x_faultPlace x_pos x_token x_tokenAt x_tokenEnd x_seen x_nodes x_variables x_equations x_leftCount x_parsed x_placeNow x_main x_instances x_all x_states x_memories x_calls x_allParts x_causesTotal x_instants x_keptInstants x_isKept 1) (gcV 2 gG_good hG ml_M_270 im_M_refuse se_M_refuse in_M co_M_refuse rfl rfl (by decide +kernel) ⟨(Nat.le_of_ble_eq_true rfl), (Nat.le_of_ble_eq_true rfl)⟩) (ct_preV hPc hK hDc (ci := 12) (q0 := 0) rfl rfl) rfl rfl hl.1 rfl (lv_room (Nat.le_of_ble_eq_true rfl)) d_M_feed_22 ⟨(Nat.le_of_ble_eq_true rfl), (Nat.le_of_ble_eq_true rfl)⟩) ?_
  refine W.eq (g2 := F0 m 25 ls [.int 0]) rfl ?_
  refine lv_if_eq (tgt := 30) hx hb d_M_feed_25 (by decide) (fun _ => ?_) (fun zz2 => absurd rfl zz2)
  refine lv_iconst (v := 0) hx hb d_M_feed_30 (by decide) ?_
  refine lv_istore (lv' := [(6, .int 0), (0, .ref g0), (1, .int va), (2, .int vb), (3, .int vc), (4, .int vd), (5, .int ve)]) hx hb d_M_feed_31 hl (by decide) rfl (fun ls hl => ?_)
  have hP : va_P D kl [(g0, .inr (12, [.ref m_tape, .int (nI (n + 0)), .int 0, .int x_faultKind, .int x_faultPlace, .int x_pos, .int x_token, .int x_tokenAt, .int x_tokenEnd, .int x_seen, .ref m_nodeAt, .ref m_nodeSize, .ref m_variableFrom, .ref m_inputCount, .ref m_outputCount, .ref m_equationFrom, .ref m_callCount, .ref m_stateCount, .int x_nodes, .int x_variables, .ref m_wordAt, .ref m_wordSize, .ref m_clockOf, .ref m_given, .ref m_truth, .ref m_placeOf, .ref m_leftFrom, .ref m_bodyOf, .ref m_lefts, .ref m_fromOf, .int x_equations, .int x_leftCount, .ref m_sort, .ref m_one, .ref m_kid, .ref m_beside, .ref m_clock, .ref m_state, .ref m_price, .ref m_high, .int x_parsed, .ref m_isTruth, .int x_placeNow, .ref m_full, .ref m_part, .ref m_low, .ref m_definedBy, .ref m_definedAs, .ref m_partsOf, .int x_main, .int x_instances, .int x_all, .int x_states, .int x_memories, .int x_calls, .int x_allParts, .ref m_nodeOf, .ref m_outer, .ref m_callOf, .ref m_base, .ref m_statesFrom, .ref m_callsFrom, .ref m_childOf, .ref m_instanceOf, .ref m_localOf, .ref m_causeFrom, .ref m_causeOf, .int x_causesTotal, .ref m_reached, .ref m_todo, .ref m_order, .ref m_undone, .int x_instants, .ref m_inputs, .ref m_value, .ref m_memory, .ref m_later, .ref m_worth, .ref m_here, .ref m_keptMemory, .ref m_keptValue, .ref m_keptHere, .int x_keptInstants, .int x_isKept])), (m_tape, .inl (cB, 65536, .inl (fT f n va vb vc vd ve 0)))] H := by rw [← fT_0, Nat.add_zero]; exact hP
  have hD : va_D A [(g0, .inr (12, [.ref m_tape, .int (nI (n + 0)), .int 0, .int x_faultKind, .int x_faultPlace, .int x_pos, .int x_token, .int x_tokenAt, .int x_tokenEnd, .int x_seen, .ref m_nodeAt, .ref m_nodeSize, .ref m_variableFrom, .ref m_inputCount, .ref m_outputCount, .ref m_equationFrom, .ref m_callCount, .ref m_stateCount, .int x_nodes, .int x_variables, .ref m_wordAt, .ref m_wordSize, .ref m_clockOf, .ref m_given, .ref m_truth, .ref m_placeOf, .ref m_leftFrom, .ref m_bodyOf, .ref m_lefts, .ref m_fromOf, .int x_equations, .int x_leftCount, .ref m_sort, .ref m_one, .ref m_kid, .ref m_beside, .ref m_clock, .ref m_state, .ref m_price, .ref m_high, .int x_parsed, .ref m_isTruth, .int x_placeNow, .ref m_full, .ref m_part, .ref m_low, .ref m_definedBy, .ref m_definedAs, .ref m_partsOf, .int x_main, .int x_instances, .int x_all, .int x_states, .int x_memories, .int x_calls, .int x_allParts, .ref m_nodeOf, .ref m_outer, .ref m_callOf, .ref m_base, .ref m_statesFrom, .ref m_callsFrom, .ref m_childOf, .ref m_instanceOf, .ref m_localOf, .ref m_causeFrom, .ref m_causeOf, .int x_causesTotal, .ref m_reached, .ref m_todo, .ref m_order, .ref m_undone, .int x_instants, .ref m_inputs, .ref m_value, .ref m_memory, .ref m_later, .ref m_worth, .ref m_here, .ref m_keptMemory, .ref m_keptValue, .ref m_keptHere, .int x_keptInstants, .int x_isKept])), (m_tape, .inl (cB, 65536, .inl (fT f n va vb vc vd ve 0)))] := by rw [← fT_0, Nat.add_zero]; exact hD
  refine lp_M_feed D cI cB cJ cZ hx hb hml hown hG hK hA g0 n m_tape m_nodeAt m_nodeSize m_variableFrom m_inputCount m_outputCount m_equationFrom m_callCount m_stateCount m_wordAt m_wordSize m_clockOf m_given m_truth m_placeOf m_leftFrom m_bodyOf m_lefts m_fromOf m_sort m_one m_kid m_beside m_clock m_state m_price m_high m_isTruth m_full m_part m_low m_definedBy m_definedAs m_partsOf m_nodeOf m_outer m_callOf m_base m_statesFrom m_callsFrom m_childOf m_instanceOf m_localOf m_causeFrom m_causeOf m_reached m_todo m_order m_undone m_inputs m_value m_memory m_later m_worth m_here m_keptMemory m_keptValue m_keptHere x_faultKind x_faultPlace x_pos x_token x_tokenAt x_tokenEnd x_seen x_nodes x_variables x_equations x_leftCount x_parsed x_placeNow x_main x_instances x_all x_states x_memories x_calls x_allParts x_causesTotal x_instants x_keptInstants x_isKept va vb vc vd ve f hn (fun H locs ls hl hP hD hS => ?_) 20 0 H locs ls rfl hl hP hD hS
  rw [fT_20] at hP hD
  refine lv_aload_n hx hb d_M_feed_124 rfl (lv_at hl 1 rfl) ?_
  refine va_get (D := D) (ci := 12) (v := .int (nI (n + 20))) (C := R_M) (T := T_M) (N := 84) hx hb hG gi_M hown hK hP 0 rfl rfl 1 (by decide) (hG _ fl_M_14) (fun _ h9 => h9) rfl d_M_feed_125 ?_
  exact W.iret (v := (nI (n + 20))) hx hb hr (fun t ht hW => ⟨⟨(nI (n + 20)), (), rfl, rfl, by rw [ht]; exact hP, hD⟩, hS.F ht⟩) hS.2.2 d_M_feed_128

