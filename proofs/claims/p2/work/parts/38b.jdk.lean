/-! Arrays.fill, System.arraycopy, a long constant -/
def flA (γ : St) (j : Nat) (lo hi v : Int) : St := fun g i => if g = j ∧ lo ≤ i ∧ i < hi then v else γ g i
def cpA (γ : St) (j0 j1 : Nat) (n : Int) : St := fun g i => if g = j1 ∧ 0 ≤ i ∧ i < n then γ j0 i else γ g i
theorem flA_0 {γ : St} {j : Nat} {lo v : Int} : flA γ j lo lo v = γ := by
  funext g i
  unfold flA
  rw [if_neg (by omega)]
theorem flA_s {γ : St} {j : Nat} {lo k v : Int} (h : lo ≤ k) : setA (flA γ j lo k v) j k v = flA γ j lo (k + 1) v := by
  funext g i
  unfold setA flA
  by_cases c : g = j ∧ i = k
  · rw [if_pos c, if_pos ⟨c.1, by omega, by omega⟩]
  · rw [if_neg c]
    by_cases d : g = j ∧ lo ≤ i ∧ i < k
    · rw [if_pos d, if_pos ⟨d.1, by omega, by omega⟩]
    · rw [if_neg d, if_neg (by rintro ⟨e1, e2, e3⟩; exact d ⟨e1, e2, by have : i ≠ k := fun q => c ⟨e1, q⟩; omega⟩)]
theorem WB.fl {B : Tb} {γ : St} (h : WB B γ) {j : Nat} {lo hi v : Int} (hv : i32 v) : WB B (flA γ j lo hi v) := fun g k hg => by
  unfold flA
  by_cases c : g = j ∧ lo ≤ k ∧ k < hi
  · rw [if_pos c]; exact hv
  · rw [if_neg c]; exact h g k hg
theorem WB.cp {B : Tb} {γ : St} (h : WB B γ) {j0 j1 : Nat} {n : Int} (hj : lgB B j0 = lgB B j1) : WB B (cpA γ j0 j1 n) := fun g k hg => by
  unfold cpA
  by_cases c : g = j1 ∧ 0 ≤ k ∧ k < n
  · rw [if_pos c]; exact h j0 k (by rw [hj, ← c.1]; exact hg)
  · rw [if_neg c]; exact h g k hg
abbrev b_fill0 : ByteArray := prog_26_method_103_code
abbrev y_fill0 : MethodName := ⟨"java/util/Arrays", "fill", "([II)V"⟩
abbrev mt_fill0 : MT := ("java/util/Arrays", b_fill0, 4, none)
theorem d_fill0_0 : decode b_fill0 0 = .ok (.iconst 0, 1) := by decide +kernel
theorem d_fill0_1 : decode b_fill0 1 = .ok (.istore_n 2, 1) := by decide +kernel
theorem d_fill0_2 : decode b_fill0 2 = .ok (.aload_n 0, 1) := by decide +kernel
theorem d_fill0_3 : decode b_fill0 3 = .ok (.arraylength, 1) := by decide +kernel
theorem d_fill0_4 : decode b_fill0 4 = .ok (.istore_n 3, 1) := by decide +kernel
theorem d_fill0_5 : decode b_fill0 5 = .ok (.iload_n 2, 1) := by decide +kernel
theorem d_fill0_6 : decode b_fill0 6 = .ok (.iload_n 3, 1) := by decide +kernel
theorem d_fill0_7 : decode b_fill0 7 = .ok (.if_icmp .ge 13, 3) := by decide +kernel
theorem d_fill0_10 : decode b_fill0 10 = .ok (.aload_n 0, 1) := by decide +kernel
theorem d_fill0_11 : decode b_fill0 11 = .ok (.iload_n 2, 1) := by decide +kernel
theorem d_fill0_12 : decode b_fill0 12 = .ok (.iload_n 1, 1) := by decide +kernel
theorem d_fill0_13 : decode b_fill0 13 = .ok (.iastore, 1) := by decide +kernel
theorem d_fill0_14 : decode b_fill0 14 = .ok (.iinc 2 1, 3) := by decide +kernel
theorem d_fill0_17 : decode b_fill0 17 = .ok (.goto (-12), 3) := by decide +kernel
theorem d_fill0_20 : decode b_fill0 20 = .ok (.return_, 1) := by decide +kernel
section FI
variable {Γ : Ctx} {B : Tb} {j n : Nat} {γ : St} {v : Int}
theorem s_fill0 (hj : B[j]? = some (.inl (0, n))) (hn : n < 2 ^ 31) (hv : i32 v) : ∀ (m : Nat) (k : Int), 0 ≤ k → k ≤ n → (n : Int) - k < m → SB Γ B mt_fill0 (RmN 0 0) 0 0 (KN Γ B none) 5 [(2, vI k), (3, vI n), (0, vR Γ j), (1, vI v)] [] (flA γ j 0 k v) (some (0, flA γ j 0 n v)) := by
  intro m
  induction m with
  | zero => intro k _ h1 h2; exact absurd h2 (by omega)
  | succ m ih =>
    intro k h0 h1 h2
    refine sb_iload_n 0 d_fill0_5 rfl ?_
    refine sb_iload_n 1 d_fill0_6 rfl ?_
    refine sb_eq (o' := if (n : Int) ≤ k then some (0, flA γ j 0 k v) else some (0, flA γ j 0 n v)) (by
      by_cases c : (n : Int) ≤ k
      · rw [if_pos c, show k = n by omega]
      · rw [if_neg c]) ?_
    refine sb_icmp_ge 20 (by omega) (by omega) d_fill0_7 (by decide) (fun _ => ?_) (fun c => ?_)
    · exact sn_v rfl d_fill0_20
    · refine sb_aload_n 2 d_fill0_10 rfl ?_
      refine sb_iload_n 0 d_fill0_11 rfl ?_
      refine sb_iload_n 3 d_fill0_12 rfl ?_
      refine sb_eq (chk_t (c := inb k n) (inst := inferInstance) ⟨h0, by omega⟩).symm ?_
      refine sb_iast hv hj rfl hn d_fill0_13 (fun _ => ?_)
      refine sb_iinc 0 [(2, vI (k + 1)), (3, vI n), (0, vR Γ j), (1, vI v)] d_fill0_14 rfl (by decide) rfl ?_
      refine sb_goto 5 d_fill0_17 (by decide) ?_
      rw [flA_s h0]
      exact ih (k + 1) (by omega) (by omega) (by omega)
theorem c_fill0 (hj : B[j]? = some (.inl (0, n))) (hn : n < 2 ^ 31) (hv : i32 v) : NC Γ B y_fill0 mt_fill0 0 0 [vR Γ j, vI v] γ (some (0, flA γ j 0 n v)) := by
  refine nc_of (by decide) rfl (Nat.le_of_ble_eq_true rfl) ?_
  show SB Γ B mt_fill0 (RmN 0 0) 0 0 (KN Γ B none) 0 [(0, vR Γ j), (1, vI v)] [] γ _
  refine sb_iconst d_fill0_0 ?_
  refine sb_istore_n [(2, vI 0), (0, vR Γ j), (1, vI v)] d_fill0_1 (by decide) rfl ?_
  refine sb_aload_n 1 d_fill0_2 rfl ?_
  refine sb_alen n hj (Or.inl rfl) rfl d_fill0_3 ?_
  refine sb_istore_n [(3, vI n), (2, vI 0), (0, vR Γ j), (1, vI v)] d_fill0_4 (by decide) rfl ?_
  refine sb_lv [1, 0, 2, 3] rfl ?_
  have h := s_fill0 (Γ := Γ) (γ := γ) hj hn hv (n + 1) 0 (by omega) (by omega) (by omega)
  rw [flA_0] at h
  exact h
end FI
section FJ
variable {Γ : Ctx} {B : Tb} {mt : MT} {R : Room} {ce sl : Nat} {ζ : Type} {K : Kd ζ} {pc : Nat} {lv lv' : List (Nat × Value)} {st : List Value} {γ : St} {o : Option ζ}
/-- invokestatic of another class's method that only returns -/
theorem sb_callJ {y : MethodName} {mu : MT} {fr lo n index : Nat} {As st0 : List Value} {o1 : Option (Int × St)} {k : Int → St → Option ζ} (f1 : Cond.static y ∈ gG) (f3 : Cond.initialized y.cls ∈ gG) (f4 : Cond.code y mu.2.1 mu.2.2.1 mu.2.2.2 ∈ gG) (f5 : y.cls ≠ "java/lang/invoke/MethodHandle" ∧ y.cls ≠ "java/lang/invoke/VarHandle" ∧ (parseMethodDescriptor y.desc).map (fun d => d.parameters.length) = some n) (hC : NC Γ B y mu fr lo As γ o1) (hm : Cond.methodLink mt.1 index y ∈ gG) (hn : As.length = n) (hst : st0 = As.reverse ++ st) (hW : (st.map fun v => v.category).sum ≤ 8) (hR : fr + 1 ≤ R.frames ∧ 8 + (mu.2.2.1 + 11) + lo ≤ R.locals) (d : decode mt.2.1 pc = .ok (.invokestatic index, 3))
    (kk : ∀ r γ', rOK mu.2.2.2 r → SB Γ B mt R ce sl K (pc + 3) lv (pR mu.2.2.2 r st) γ' (k r γ')) : SB Γ B mt R ce sl K pc lv st0 γ (bndN o1 k) := fun z hz p e s m args below meth c H locs ls X hc hw hl hP hS => by
  cases ho : o1 with
  | none => rw [ho] at hz; cases hz
  | some z1 =>
    rw [ho] at hz
    have hM := hC z1 ho hw H.size
    have run := va_runS (p := p) (e := e) (R := R) (s := s) (m := m) (args := args) (below := below) (meth := meth) (c := c) (H := H) (locs := locs) (cells := ce) (slots := sl) (As := As) (rest := st) (g := F0 m pc ls st0) ⟨X.x, X.b, X.ml, X.own, X.G⟩ hM (gcS2 n gG_good X.G hm f1 f3 f4 rfl rfl f5 hR)
      ⟨mPre_blind, fun U hU hW => ⟨rfl, mPre_U X hP hS U hU hW⟩⟩ rfl hn hl.1 hst (lv_room (m := m) (pc := pc) (ls := ls) (rest := st0) hW) d hc
    intro T0 hT0 XT
    obtain ⟨v, st₀, t, T', L, h0, X', hL, e1, e2, ⟨⟨hv, hok, hwb, hPz⟩, hz1, hk1⟩, go⟩ := run T0 hT0 XT
    cases hv
    rw [h0] at hz1 hk1
    rw [← e1] at hPz hz1 hk1
    obtain ⟨t2, a1, b1⟩ := kk z1.1 z1.2 hok z hz p e s m args below meth c T'.heap (locs ++ L) ls X hc hwb hl hPz (va_S_call hS hz1 hk1 hL) T' rfl X'
    exact ⟨t2, go t2 a1, b1⟩
theorem sb_fill0 {j n index : Nat} {v n0 : Int} {b : St → Option ζ} (hj : B[j]? = some (.inl (0, n))) (hq : (n : Int) = n0) (hn : n < 2 ^ 31) (hv : i32 v) (hm : Cond.methodLink mt.1 index y_fill0 ∈ gG) (hW : (st.map fun v => v.category).sum ≤ 8) (hR : 1 ≤ R.frames ∧ 23 ≤ R.locals) (d : decode mt.2.1 pc = .ok (.invokestatic index, 3)) (k : ∀ γ1, SB Γ B mt R ce sl K (pc + 3) lv st γ1 (b γ1)) : SB Γ B mt R ce sl K pc lv (vI v :: vR Γ j :: st) γ (ap (flA γ j 0 n0 v) b) := by
  subst hq
  exact sb_callJ (n := 2) (mu := mt_fill0) (o1 := some (0, flA γ j 0 n v)) (k := fun _ γ1 => b γ1) sm_java_util_Arrays_fill_0 in_java_util_Arrays co_java_util_Arrays_fill_0 (by decide +kernel) (c_fill0 hj hn hv) hm rfl rfl hW ⟨hR.1, hR.2⟩ d (fun r γ' _ => k γ')
theorem cp_i {j0 j1 t n1 : Nat} {n : Int} (h1 : B[j1]? = some (.inl (t, n1))) (ht : t ≠ 2) (hn : 0 ≤ n) : (wB Γ γ 0 B).set j1 (Γ.a j1, .inl (cT Γ t, n1, .inl (va_cpy (fun k : Nat => iI (γ j0 k)) (fun k : Nat => iI (γ j1 k)) 0 0 n.toNat))) = wB Γ (cpA γ j0 j1 n) 0 B :=
  wB_set h1 (by
    rw [ek_i ht]
    congr 4
    funext k
    unfold va_cpy cpA
    by_cases c : 0 ≤ k ∧ k < 0 + n.toNat
    · rw [if_pos c, if_pos ⟨rfl, by omega, by omega⟩]
      simp
    · rw [if_neg c, if_neg (by rintro ⟨_, e1, e2⟩; exact c ⟨by omega, by omega⟩)]) (fun g hg => by
    funext i
    unfold cpA
    rw [if_neg (by rintro ⟨e1, _⟩; exact hg e1)])
theorem cp_l {j0 j1 n1 : Nat} {n : Int} (h1 : B[j1]? = some (.inl (2, n1))) (hn : 0 ≤ n) : (wB Γ γ 0 B).set j1 (Γ.a j1, .inl (cT Γ 2, n1, .inr (.inl (va_cpy (fun k : Nat => iL (γ j0 k)) (fun k : Nat => iL (γ j1 k)) 0 0 n.toNat)))) = wB Γ (cpA γ j0 j1 n) 0 B :=
  wB_set h1 (by
    rw [ek_l]
    congr 5
    funext k
    unfold va_cpy cpA
    by_cases c : 0 ≤ k ∧ k < 0 + n.toNat
    · rw [if_pos c, if_pos ⟨rfl, by omega, by omega⟩]
      simp
    · rw [if_neg c, if_neg (by rintro ⟨_, e1, e2⟩; exact c ⟨by omega, by omega⟩)]) (fun g hg => by
    funext i
    unfold cpA
    rw [if_neg (by rintro ⟨e1, _⟩; exact hg e1)])
theorem iI_tn {n : Int} (h : 0 ≤ n ∧ n ≤ 2147483647) : (iI n).toNatClampNeg = n.toNat := by
  have := iI_clamp h
  omega
/-- System.arraycopy(src, 0, dst, 0, n): ints, booleans, longs -/
theorem sb_cpI {j0 j1 m0 m1 index : Nat} {n M0 M1 : Int} {b : St → Option ζ} {inst : Decidable (0 ≤ n ∧ n ≤ M0 ∧ n ≤ M1)} (h0 : B[j0]? = some (.inl (0, m0))) (h1 : B[j1]? = some (.inl (0, m1))) (e0 : (m0 : Int) = M0) (e1 : (m1 : Int) = M1) (hb : m0 < 2 ^ 31 ∧ m1 < 2 ^ 31) (hm : Cond.methodLink mt.1 index arraycopyName ∈ gG) (hR : 1 ≤ R.frames ∧ (st.map fun v => v.category).sum + (nativeFrameWords "java/lang/System" "arraycopy" 5 + 11) ≤ R.locals) (d : decode mt.2.1 pc = .ok (.invokestatic index, 3)) (k : ∀ γ1, SB Γ B mt R ce sl K (pc + 3) lv st γ1 (b γ1)) : SB Γ B mt R ce sl K pc lv (vI n :: vI 0 :: vR Γ j1 :: vI 0 :: vR Γ j0 :: st) γ (@chk (0 ≤ n ∧ n ≤ M0 ∧ n ≤ M1) ζ inst (ap (cpA γ j0 j1 n) b)) := by
  subst e0; subst e1
  refine sb_chk fun hi z hz p e s m args below meth c H locs ls X hc hw hl hP hS => ?_
  have z0 : (iI 0).toNatClampNeg = 0 := by decide
  have zn := iI_tn (n := n) (by omega)
  have hneg : ¬ iI n < 0 := fun q => by
    have q2 : iI n < iI 0 := q
    rw [iI_lt (by omega) (by decide)] at q2
    omega
  exact va_copyi (ty := .int) X.x X.b (X.ml.trans hl.1.symm) X.own (X.G _ hm) (va_Nw.use rfl X.E.2.2.2.1) (X.G _ sm_java_lang_System_arraycopy) (X.G _ in_java_lang_System) X.K hP (wB_D X.ap γ) hS j0 j1 0 0 (wB_ati h0 (by decide)) (wB_ati h1 (by decide)) rfl rfl rfl (by decide) (by decide) hneg (by rw [z0, zn]; omega) (by rw [z0, zn]; omega) (fun i _ => rfl) hR.1 hR.2 d (fun H1 locs1 q1 _ q2 => by
    have q1 : va_P Γ.D kl ((wB Γ γ 0 B).set j1 (Γ.a j1, .inl (cT Γ 0, m1, .inl (va_cpy (fun k : Nat => iI (γ j0 k)) (fun k : Nat => iI (γ j1 k)) (iI 0).toNatClampNeg (iI 0).toNatClampNeg (iI n).toNatClampNeg)))) H1 := q1
    rw [z0, zn, cp_i h1 (by decide) hi.1] at q1
    exact k (cpA γ j0 j1 n) z hz p e s m args below meth c H1 locs1 ls X hc (hw.cp (by rw [lgB_f h0 (by decide), lgB_f h1 (by decide)])) hl q1 q2)
theorem sb_cpZ {j0 j1 m0 m1 index : Nat} {n M0 M1 : Int} {b : St → Option ζ} {inst : Decidable (0 ≤ n ∧ n ≤ M0 ∧ n ≤ M1 ∧ ∀ i, 0 ≤ i → i < n → γ j0 i = 0 ∨ γ j0 i = 1)} (h0 : B[j0]? = some (.inl (3, m0))) (h1 : B[j1]? = some (.inl (3, m1))) (e0 : (m0 : Int) = M0) (e1 : (m1 : Int) = M1) (hb : m0 < 2 ^ 31 ∧ m1 < 2 ^ 31) (hm : Cond.methodLink mt.1 index arraycopyName ∈ gG) (hR : 1 ≤ R.frames ∧ (st.map fun v => v.category).sum + (nativeFrameWords "java/lang/System" "arraycopy" 5 + 11) ≤ R.locals) (d : decode mt.2.1 pc = .ok (.invokestatic index, 3)) (k : ∀ γ1, SB Γ B mt R ce sl K (pc + 3) lv st γ1 (b γ1)) : SB Γ B mt R ce sl K pc lv (vI n :: vI 0 :: vR Γ j1 :: vI 0 :: vR Γ j0 :: st) γ (@chk (0 ≤ n ∧ n ≤ M0 ∧ n ≤ M1 ∧ ∀ i, 0 ≤ i → i < n → γ j0 i = 0 ∨ γ j0 i = 1) ζ inst (ap (cpA γ j0 j1 n) b)) := by
  subst e0; subst e1
  refine sb_chk fun hi z hz p e s m args below meth c H locs ls X hc hw hl hP hS => ?_
  have z0 : (iI 0).toNatClampNeg = 0 := by decide
  have zn := iI_tn (n := n) (by omega)
  have hneg : ¬ iI n < 0 := fun q => by
    have q2 : iI n < iI 0 := q
    rw [iI_lt (by omega) (by decide)] at q2
    omega
  exact va_copyi (ty := .boolean) X.x X.b (X.ml.trans hl.1.symm) X.own (X.G _ hm) (va_Nw.use rfl X.E.2.2.2.1) (X.G _ sm_java_lang_System_arraycopy) (X.G _ in_java_lang_System) X.K hP (wB_D X.ap γ) hS j0 j1 3 3 (wB_ati h0 (by decide)) (wB_ati h1 (by decide)) rfl rfl rfl (by decide) (by decide) hneg (by rw [z0, zn]; omega) (by rw [z0, zn]; omega) (fun i hlt => by
      rw [z0, Nat.zero_add]
      rw [zn] at hlt
      rcases hi.2.2.2 i (by omega) (by omega) with q | q <;> rw [q] <;> rfl) hR.1 hR.2 d (fun H1 locs1 q1 _ q2 => by
    have q1 : va_P Γ.D kl ((wB Γ γ 0 B).set j1 (Γ.a j1, .inl (cT Γ 3, m1, .inl (va_cpy (fun k : Nat => iI (γ j0 k)) (fun k : Nat => iI (γ j1 k)) (iI 0).toNatClampNeg (iI 0).toNatClampNeg (iI n).toNatClampNeg)))) H1 := q1
    rw [z0, zn, cp_i h1 (by decide) hi.1] at q1
    exact k (cpA γ j0 j1 n) z hz p e s m args below meth c H1 locs1 ls X hc (hw.cp (by rw [lgB_f h0 (by decide), lgB_f h1 (by decide)])) hl q1 q2)
theorem sb_cpL {j0 j1 m0 m1 index : Nat} {n M0 M1 : Int} {b : St → Option ζ} {inst : Decidable (0 ≤ n ∧ n ≤ M0 ∧ n ≤ M1)} (h0 : B[j0]? = some (.inl (2, m0))) (h1 : B[j1]? = some (.inl (2, m1))) (e0 : (m0 : Int) = M0) (e1 : (m1 : Int) = M1) (hb : m0 < 2 ^ 31 ∧ m1 < 2 ^ 31) (hm : Cond.methodLink mt.1 index arraycopyName ∈ gG) (hR : 1 ≤ R.frames ∧ (st.map fun v => v.category).sum + (nativeFrameWords "java/lang/System" "arraycopy" 5 + 11) ≤ R.locals) (d : decode mt.2.1 pc = .ok (.invokestatic index, 3)) (k : ∀ γ1, SB Γ B mt R ce sl K (pc + 3) lv st γ1 (b γ1)) : SB Γ B mt R ce sl K pc lv (vI n :: vI 0 :: vR Γ j1 :: vI 0 :: vR Γ j0 :: st) γ (@chk (0 ≤ n ∧ n ≤ M0 ∧ n ≤ M1) ζ inst (ap (cpA γ j0 j1 n) b)) := by
  subst e0; subst e1
  refine sb_chk fun hi z hz p e s m args below meth c H locs ls X hc hw hl hP hS => ?_
  have z0 : (iI 0).toNatClampNeg = 0 := by decide
  have zn := iI_tn (n := n) (by omega)
  have hneg : ¬ iI n < 0 := fun q => by
    have q2 : iI n < iI 0 := q
    rw [iI_lt (by omega) (by decide)] at q2
    omega
  exact va_copyl (ty := .long) X.x X.b (X.ml.trans hl.1.symm) X.own (X.G _ hm) (va_Nw.use rfl X.E.2.2.2.1) (X.G _ sm_java_lang_System_arraycopy) (X.G _ in_java_lang_System) X.K hP (wB_D X.ap γ) hS j0 j1 2 2 (wB_atl h0) (wB_atl h1) rfl rfl rfl (by decide) (by decide) hneg (by rw [z0, zn]; omega) (by rw [z0, zn]; omega) (fun i _ => rfl) hR.1 hR.2 d (fun H1 locs1 q1 _ q2 => by
    have q1 : va_P Γ.D kl ((wB Γ γ 0 B).set j1 (Γ.a j1, .inl (cT Γ 2, m1, .inr (.inl (va_cpy (fun k : Nat => iL (γ j0 k)) (fun k : Nat => iL (γ j1 k)) (iI 0).toNatClampNeg (iI 0).toNatClampNeg (iI n).toNatClampNeg))))) H1 := q1
    rw [z0, zn, cp_l h1 hi.1] at q1
    exact k (cpA γ j0 j1 n) z hz p e s m args below meth c H1 locs1 ls X hc (hw.cp (by unfold lgB; rw [h0, h1])) hl q1 q2)
theorem sb_lconst {n : Fin 2} (q : Int) (d : decode mt.2.1 pc = .ok (.lconst n, 1)) (hq : Int64.ofNat (n : Nat) = iL q) (k : SB Γ B mt R ce sl K (pc + 1) lv (.long (iL q) :: st) γ o) : SB Γ B mt R ce sl K pc lv st γ o := fun z hz p e s m args below meth c H locs ls X hc hw hl hP hS => lv_lconst X.x X.b d hq (k z hz p e s m args below meth c H locs ls X hc hw hl hP hS)
theorem sb_ldc2M (n : Int) (ev : (1099511627776 : Int64) = iL n) (hM : mt.1 = R_M) (d : decode mt.2.1 pc = .ok (.ldc2_w 557, 3)) (k : SB Γ B mt R ce sl K (pc + 3) lv (.long (iL n) :: st) γ o) : SB Γ B mt R ce sl K pc lv st γ o := fun z hz p e s m args below meth c H locs ls X hc hw hl hP hS => by
  have hown : s.vm.findClass R_M = some m.cls := hM ▸ X.own
  refine lv_ldc2 X.x X.b hown (va_Nw.use rfl X.E.2.2.2.2.2.1) d ?_
  rw [ev]
  exact k z hz p e s m args below meth c H locs ls X hc hw hl hP hS
theorem sb_ldc2S (n : Int) (ev : (1099511627776 : Int64) = iL n) (hM : mt.1 = R_Pg) (d : decode mt.2.1 pc = .ok (.ldc2_w 148, 3)) (k : SB Γ B mt R ce sl K (pc + 3) lv (.long (iL n) :: st) γ o) : SB Γ B mt R ce sl K pc lv st γ o := fun z hz p e s m args below meth c H locs ls X hc hw hl hP hS => by
  have hown : s.vm.findClass R_Pg = some m.cls := hM ▸ X.own
  refine lv_ldc2 X.x X.b hown (va_Nw.use rfl X.E.2.2.2.2.1) d ?_
  rw [ev]
  exact k z hz p e s m args below meth c H locs ls X hc hw hl hP hS
end FJ
