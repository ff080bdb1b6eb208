/-! what holds as the law begins -/
theorem en_G {b : Nat} {s : State} (hts : ∀ w ∈ lw_tbl, w.before #[Value.ref b] s = true) : ∀ w ∈ gG, w.before #[Value.ref b] s = true := fun w h => hts w (gG_law w h).1
theorem en_arr {ty : FieldType} {args : Array Value} {s : State} (h : (Cond.arrayClass ty).before args s = true) (hob : ∀ C, ty ≠ .object C) : ∃ c : ClassId, ArrOfT s c ty ∧ va_RA s c ty := by
  obtain ⟨c, k, comp, h1, h2, h3⟩ := Cond.arrayClass_spec h
  refine ⟨c, fun n z => ⟨fun k h => (by cases h), k, h2, comp, h3⟩, ?_⟩
  cases ty with
  | object C => exact absurd rfl (hob C)
  | _ => exact h1
theorem en_hA {s : State} : ∀ a : Nat, a < s.heap.size → ¬ s.heap.size ≤ a := fun _ h h2 => absurd h (Nat.not_lt.mpr h2)
set_option maxHeartbeats 1000000 in
theorem en_K {args : Array Value} {s : State} (hG : ∀ w ∈ gG, w.before args s = true) : ∃ (D : va_G) (cI cB cJ cZ : ClassId), va_K D kl (tyL cI cB cJ cZ) s := by
  obtain ⟨c0, i0, h0⟩ := u_known hG gi_S (hG _ ia_S)
  obtain ⟨c1, i1, h1⟩ := u_known hG gi_Ck (hG _ ia_Ck)
  obtain ⟨c2, i2, h2⟩ := u_known hG gi_Cd (hG _ ia_Cd)
  obtain ⟨c3, i3, h3⟩ := u_known hG gi_Er (hG _ ia_Er)
  obtain ⟨c4, i4, h4⟩ := u_known hG gi_Lk (hG _ ia_Lk)
  obtain ⟨c5, i5, h5⟩ := u_known hG gi_Nr (hG _ ia_Nr)
  obtain ⟨c6, i6, h6⟩ := u_known hG gi_Nd (hG _ ia_Nd)
  obtain ⟨c7, i7, h7⟩ := u_known hG gi_Od (hG _ ia_Od)
  obtain ⟨c8, i8, h8⟩ := u_known hG gi_Pg (hG _ ia_Pg)
  obtain ⟨c9, i9, h9⟩ := u_known hG gi_Sl (hG _ ia_Sl)
  obtain ⟨c10, i10, h10⟩ := u_known hG gi_Tk (hG _ ia_Tk)
  obtain ⟨c11, i11, h11⟩ := u_known hG gi_Wd (hG _ ia_Wd)
  obtain ⟨c12, i12, h12⟩ := u_known hG gi_M (hG _ ia_M)
  obtain ⟨c13, i13, h13⟩ := u_known hG gi_Wr (hG _ ia_Wr)
  obtain ⟨cI, aI⟩ := en_arr (hG _ ac_int) (fun _ h => by cases h)
  obtain ⟨cB, aB⟩ := en_arr (hG _ ac_byte) (fun _ h => by cases h)
  obtain ⟨cJ, aJ⟩ := en_arr (hG _ ac_long) (fun _ h => by cases h)
  obtain ⟨cZ, aZ⟩ := en_arr (hG _ ac_boolean) (fun _ h => by cases h)
  refine ⟨(fun c => [c0, c1, c2, c3, c4, c5, c6, c7, c8, c9, c10, c11, c12, c13].getD c c0, fun c => [i0, i1, i2, i3, i4, i5, i6, i7, i8, i9, i10, i11, i12, i13].getD c i0), cI, cB, cJ, cZ, fun c q h => ?_, fun k q h => ?_⟩
  · have hc : c < 14 := (List.getElem?_eq_some_iff.mp h).1
    rcases (show c = 0 ∨ c = 1 ∨ c = 2 ∨ c = 3 ∨ c = 4 ∨ c = 5 ∨ c = 6 ∨ c = 7 ∨ c = 8 ∨ c = 9 ∨ c = 10 ∨ c = 11 ∨ c = 12 ∨ c = 13 by omega) with rfl | rfl | rfl | rfl | rfl | rfl | rfl | rfl | rfl | rfl | rfl | rfl | rfl | rfl
    · cases h; exact h0
    · cases h; exact h1
    · cases h; exact h2
    · cases h; exact h3
    · cases h; exact h4
    · cases h; exact h5
    · cases h; exact h6
    · cases h; exact h7
    · cases h; exact h8
    · cases h; exact h9
    · cases h; exact h10
    · cases h; exact h11
    · cases h; exact h12
    · cases h; exact h13
  · have hk : k < 4 := (List.getElem?_eq_some_iff.mp h).1
    rcases (show k = 0 ∨ k = 1 ∨ k = 2 ∨ k = 3 by omega) with rfl | rfl | rfl | rfl
    · cases h; exact aI
    · cases h; exact aB
    · cases h; exact aJ
    · cases h; exact aZ

theorem en_T {w : Cond} {b : Nat} {s : State} (hts : ∀ w ∈ lw_tbl, w.before #[Value.ref b] s = true) (h : w ∈ tables_1) : w.before #[Value.ref b] s = true := hts w (List.mem_append_right _ h)
set_option maxRecDepth 100000 in
set_option maxHeartbeats 4000000 in
theorem en_X {b : Nat} {s : State} (hts : ∀ w ∈ lw_tbl, w.before #[Value.ref b] s = true) (hgv : (Jvm.Cond.and given_1 narrow_1).before #[Value.ref b] s = true) : xs_P (fun q => s.heap.size ≤ q) s s.heap := by
  have hs := flat_of_before _ hgv
  have l1 : (Cond.laysStatic Bundle.tN "UNASSIGNED_STACK" Bundle.steD).before #[Value.ref b] s = true := en_T hts (by decide +kernel)
  have l2 : (Cond.laysStatic Bundle.tN "SUPPRESSED_SENTINEL" Bundle.listD).before #[Value.ref b] s = true := en_T hts (by decide +kernel)
  have r1 : (Cond.isRef (.static Bundle.tN "UNASSIGNED_STACK" Bundle.steD)).before #[Value.ref b] s = true := hs _ (by decide +kernel)
  have r2 : (Cond.isRef (.static Bundle.tN "SUPPRESSED_SENTINEL" Bundle.listD)).before #[Value.ref b] s = true := hs _ (by decide +kernel)
  have hi : (Cond.initialized Bundle.tN).before #[Value.ref b] s = true := en_T hts (by decide +kernel)
  exact ⟨⟨⟨va_Zqof l1 hi r1 en_hA, va_Zqof l2 hi r2 en_hA⟩, xl_S.of l1 en_hA, xl_S.of l2 en_hA⟩, va_Nw.of rfl (en_T hts (by decide +kernel)), va_Nw.of rfl (en_T hts (by decide +kernel)), va_Nw.of rfl (en_T hts (by decide +kernel)), va_Nw.of rfl (en_T hts (by decide +kernel)), va_Nw.of rfl (en_T hts (by decide +kernel)), va_Nw.of rfl (en_T hts (by decide +kernel))⟩
set_option maxRecDepth 100000 in
set_option maxHeartbeats 4000000 in
theorem en_N {b : Nat} {s : State} (hgv : (Jvm.Cond.and given_1 narrow_1).before #[Value.ref b] s = true) : xn_P s := by
  have hs := flat_of_before _ hgv
  exact ⟨va_Nc.of (hs _ (by decide +kernel)), va_Nc.of (hs _ (by decide +kernel)), va_Nc.of (hs _ (by decide +kernel))⟩
/-- a text that the class file holds -/
theorem en_str {args : Array Value} {s : State} {own tx : String} {k n : Nat} {f : Nat → Int32} {A : Nat → Prop} (hn : n < 2 ^ 31) (hr : (Cond.stringRef own k tx).before args s = true) (hex : (Cond.exactly (.string own k) "java/lang/String").before args s = true) (hco : (Cond.eq (.field (.string own k) "java/lang/String" "coder" "B") (.int 0)).before args s = true)
    (har : (Cond.arrayOf (.field (.string own k) "java/lang/String" "value" "[B") .byte).before args s = true) (hle : (Cond.eq (.length (.field (.string own k) "java/lang/String" "value" "[B")) (.int (Int32.ofNat n))).before args s = true)
    (hel : ∀ j : Nat, j < n → (Cond.eq (.elem (.field (.string own k) "java/lang/String" "value" "[B") (.int (Int32.ofNat j))) (.int (f j))).before args s = true) (hA : ∀ a : Nat, a < s.heap.size → ¬ A a) : ∃ a t : Nat, vk_R own k tx a s ∧ sg_S a t n f A s s.heap := by
  obtain ⟨a, c, cA, kA, q1, q2, q3, q4, q5, q6, -⟩ := Cond.exactly_spec (args := args) (first := s) (o := none) (s := s) (idx := []) (t := .string own k) (cls := "java/lang/String") hex
  obtain ⟨t, ht, hT⟩ := va_Tof (f := fun j => .int (f j)) (A := A) hn har (va_eqt hle) (fun j hj => va_eqt (hel j hj)) hA
  exact ⟨a, t, vk_R.of hr q1, ⟨cA, q3, q5, by rw [q6]; exact q2, hA a (Array.getElem?_eq_some_iff.mp q3).1⟩, vk_OFof q1 (va_eqt hco) hA, vk_OFof q1 ht hA, hT⟩
set_option maxRecDepth 100000 in
set_option maxHeartbeats 4000000 in
theorem en_E {b : Nat} {s : State} (hts : ∀ w ∈ lw_tbl, w.before #[Value.ref b] s = true) (hgv : (Jvm.Cond.and given_1 narrow_1).before #[Value.ref b] s = true) : sg_E (fun q => s.heap.size ≤ q) s s.heap := by
  have hs := flat_of_before _ hgv
  have l1 : (Cond.laysStatic "java/lang/String" "COMPACT_STRINGS" "Z").before #[Value.ref b] s = true := en_T hts (by decide +kernel)
  have l2 : (Cond.laysStatic "jdk/internal/util/Preconditions" "SIOOBE_FORMATTER" "Ljava/util/function/BiFunction;").before #[Value.ref b] s = true := en_T hts (by decide +kernel)
  have r1 : (Cond.eq (.static "java/lang/String" "COMPACT_STRINGS" "Z") (.int 1)).before #[Value.ref b] s = true := hs _ (by decide +kernel)
  have r2 : (Cond.isRef (.static "jdk/internal/util/Preconditions" "SIOOBE_FORMATTER" "Ljava/util/function/BiFunction;")).before #[Value.ref b] s = true := hs _ (by decide +kernel)
  have i1 : (Cond.initialized "java/lang/String").before #[Value.ref b] s = true := en_T hts (by decide +kernel)
  have i2 : (Cond.initialized "jdk/internal/util/Preconditions").before #[Value.ref b] s = true := en_T hts (by decide +kernel)
  exact ⟨va_Zof l1 i1 (va_eqt r1) en_hA, va_Zqof l2 i2 r2 en_hA⟩
set_option maxRecDepth 100000 in
set_option maxHeartbeats 4000000 in
theorem en_s_S_14 {b : Nat} {s : State} (hts : ∀ w ∈ lw_tbl, w.before #[Value.ref b] s = true) (hgv : (Jvm.Cond.and given_1 narrow_1).before #[Value.ref b] s = true) : ∃ a t : Nat, vk_R "StreamNodes" 14 "node returns var let tel int bool when not and or xor if then else pre current fby div mod true false " a s ∧ sg_S a t 102 kwf (fun q => s.heap.size ≤ q) s s.heap := by
  have hs := flat_of_before _ hgv
  have he : ∀ j : Nat, j < 102 → (Cond.eq (.elem (.field (.string "StreamNodes" 14) "java/lang/String" "value" "[B") (.int (Int32.ofNat j))) (.int (kwf j))) ∈ flatC (Jvm.Cond.and given_1 narrow_1) := by decide +kernel
  exact en_str (by decide) (en_T hts nt_sr_S_14) (hs _ (by decide +kernel)) (hs _ (by decide +kernel)) (hs _ (by decide +kernel)) (hs _ (by decide +kernel)) (fun j hj => hs _ (he j hj)) en_hA
abbrev tx_node : Nat → Int32 := fun j => ([110, 111, 100, 101] : List Int32).getD j 0
set_option maxRecDepth 100000 in
set_option maxHeartbeats 4000000 in
theorem en_s_M_321 {b : Nat} {s : State} (hts : ∀ w ∈ lw_tbl, w.before #[Value.ref b] s = true) (hgv : (Jvm.Cond.and given_1 narrow_1).before #[Value.ref b] s = true) : ∃ a t : Nat, vk_R "StreamNodesModel" 321 "node" a s ∧ sg_S a t 4 tx_node (fun q => s.heap.size ≤ q) s s.heap := by
  have hs := flat_of_before _ hgv
  have he : ∀ j : Nat, j < 4 → (Cond.eq (.elem (.field (.string "StreamNodesModel" 321) "java/lang/String" "value" "[B") (.int (Int32.ofNat j))) (.int (tx_node j))) ∈ flatC (Jvm.Cond.and given_1 narrow_1) := by decide +kernel
  exact en_str (by decide) (en_T hts nt_sr_M_321) (hs _ (by decide +kernel)) (hs _ (by decide +kernel)) (hs _ (by decide +kernel)) (hs _ (by decide +kernel)) (fun j hj => hs _ (he j hj)) en_hA
abbrev tx_returns : Nat → Int32 := fun j => ([114, 101, 116, 117, 114, 110, 115] : List Int32).getD j 0
set_option maxRecDepth 100000 in
set_option maxHeartbeats 4000000 in
theorem en_s_M_323 {b : Nat} {s : State} (hts : ∀ w ∈ lw_tbl, w.before #[Value.ref b] s = true) (hgv : (Jvm.Cond.and given_1 narrow_1).before #[Value.ref b] s = true) : ∃ a t : Nat, vk_R "StreamNodesModel" 323 "returns" a s ∧ sg_S a t 7 tx_returns (fun q => s.heap.size ≤ q) s s.heap := by
  have hs := flat_of_before _ hgv
  have he : ∀ j : Nat, j < 7 → (Cond.eq (.elem (.field (.string "StreamNodesModel" 323) "java/lang/String" "value" "[B") (.int (Int32.ofNat j))) (.int (tx_returns j))) ∈ flatC (Jvm.Cond.and given_1 narrow_1) := by decide +kernel
  exact en_str (by decide) (en_T hts nt_sr_M_323) (hs _ (by decide +kernel)) (hs _ (by decide +kernel)) (hs _ (by decide +kernel)) (hs _ (by decide +kernel)) (fun j hj => hs _ (he j hj)) en_hA
abbrev tx_var : Nat → Int32 := fun j => ([118, 97, 114] : List Int32).getD j 0
set_option maxRecDepth 100000 in
set_option maxHeartbeats 4000000 in
theorem en_s_M_325 {b : Nat} {s : State} (hts : ∀ w ∈ lw_tbl, w.before #[Value.ref b] s = true) (hgv : (Jvm.Cond.and given_1 narrow_1).before #[Value.ref b] s = true) : ∃ a t : Nat, vk_R "StreamNodesModel" 325 "var" a s ∧ sg_S a t 3 tx_var (fun q => s.heap.size ≤ q) s s.heap := by
  have hs := flat_of_before _ hgv
  have he : ∀ j : Nat, j < 3 → (Cond.eq (.elem (.field (.string "StreamNodesModel" 325) "java/lang/String" "value" "[B") (.int (Int32.ofNat j))) (.int (tx_var j))) ∈ flatC (Jvm.Cond.and given_1 narrow_1) := by decide +kernel
  exact en_str (by decide) (en_T hts nt_sr_M_325) (hs _ (by decide +kernel)) (hs _ (by decide +kernel)) (hs _ (by decide +kernel)) (hs _ (by decide +kernel)) (fun j hj => hs _ (he j hj)) en_hA
abbrev tx_let : Nat → Int32 := fun j => ([108, 101, 116] : List Int32).getD j 0
set_option maxRecDepth 100000 in
set_option maxHeartbeats 4000000 in
theorem en_s_M_327 {b : Nat} {s : State} (hts : ∀ w ∈ lw_tbl, w.before #[Value.ref b] s = true) (hgv : (Jvm.Cond.and given_1 narrow_1).before #[Value.ref b] s = true) : ∃ a t : Nat, vk_R "StreamNodesModel" 327 "let" a s ∧ sg_S a t 3 tx_let (fun q => s.heap.size ≤ q) s s.heap := by
  have hs := flat_of_before _ hgv
  have he : ∀ j : Nat, j < 3 → (Cond.eq (.elem (.field (.string "StreamNodesModel" 327) "java/lang/String" "value" "[B") (.int (Int32.ofNat j))) (.int (tx_let j))) ∈ flatC (Jvm.Cond.and given_1 narrow_1) := by decide +kernel
  exact en_str (by decide) (en_T hts nt_sr_M_327) (hs _ (by decide +kernel)) (hs _ (by decide +kernel)) (hs _ (by decide +kernel)) (hs _ (by decide +kernel)) (fun j hj => hs _ (he j hj)) en_hA
abbrev tx_tel : Nat → Int32 := fun j => ([116, 101, 108] : List Int32).getD j 0
set_option maxRecDepth 100000 in
set_option maxHeartbeats 4000000 in
theorem en_s_M_329 {b : Nat} {s : State} (hts : ∀ w ∈ lw_tbl, w.before #[Value.ref b] s = true) (hgv : (Jvm.Cond.and given_1 narrow_1).before #[Value.ref b] s = true) : ∃ a t : Nat, vk_R "StreamNodesModel" 329 "tel" a s ∧ sg_S a t 3 tx_tel (fun q => s.heap.size ≤ q) s s.heap := by
  have hs := flat_of_before _ hgv
  have he : ∀ j : Nat, j < 3 → (Cond.eq (.elem (.field (.string "StreamNodesModel" 329) "java/lang/String" "value" "[B") (.int (Int32.ofNat j))) (.int (tx_tel j))) ∈ flatC (Jvm.Cond.and given_1 narrow_1) := by decide +kernel
  exact en_str (by decide) (en_T hts nt_sr_M_329) (hs _ (by decide +kernel)) (hs _ (by decide +kernel)) (hs _ (by decide +kernel)) (hs _ (by decide +kernel)) (fun j hj => hs _ (he j hj)) en_hA
abbrev tx_int : Nat → Int32 := fun j => ([105, 110, 116] : List Int32).getD j 0
set_option maxRecDepth 100000 in
set_option maxHeartbeats 4000000 in
theorem en_s_M_331 {b : Nat} {s : State} (hts : ∀ w ∈ lw_tbl, w.before #[Value.ref b] s = true) (hgv : (Jvm.Cond.and given_1 narrow_1).before #[Value.ref b] s = true) : ∃ a t : Nat, vk_R "StreamNodesModel" 331 "int" a s ∧ sg_S a t 3 tx_int (fun q => s.heap.size ≤ q) s s.heap := by
  have hs := flat_of_before _ hgv
  have he : ∀ j : Nat, j < 3 → (Cond.eq (.elem (.field (.string "StreamNodesModel" 331) "java/lang/String" "value" "[B") (.int (Int32.ofNat j))) (.int (tx_int j))) ∈ flatC (Jvm.Cond.and given_1 narrow_1) := by decide +kernel
  exact en_str (by decide) (en_T hts nt_sr_M_331) (hs _ (by decide +kernel)) (hs _ (by decide +kernel)) (hs _ (by decide +kernel)) (hs _ (by decide +kernel)) (fun j hj => hs _ (he j hj)) en_hA
abbrev tx_bool : Nat → Int32 := fun j => ([98, 111, 111, 108] : List Int32).getD j 0
set_option maxRecDepth 100000 in
set_option maxHeartbeats 4000000 in
theorem en_s_M_333 {b : Nat} {s : State} (hts : ∀ w ∈ lw_tbl, w.before #[Value.ref b] s = true) (hgv : (Jvm.Cond.and given_1 narrow_1).before #[Value.ref b] s = true) : ∃ a t : Nat, vk_R "StreamNodesModel" 333 "bool" a s ∧ sg_S a t 4 tx_bool (fun q => s.heap.size ≤ q) s s.heap := by
  have hs := flat_of_before _ hgv
  have he : ∀ j : Nat, j < 4 → (Cond.eq (.elem (.field (.string "StreamNodesModel" 333) "java/lang/String" "value" "[B") (.int (Int32.ofNat j))) (.int (tx_bool j))) ∈ flatC (Jvm.Cond.and given_1 narrow_1) := by decide +kernel
  exact en_str (by decide) (en_T hts nt_sr_M_333) (hs _ (by decide +kernel)) (hs _ (by decide +kernel)) (hs _ (by decide +kernel)) (hs _ (by decide +kernel)) (fun j hj => hs _ (he j hj)) en_hA
abbrev tx_when : Nat → Int32 := fun j => ([119, 104, 101, 110] : List Int32).getD j 0
set_option maxRecDepth 100000 in
set_option maxHeartbeats 4000000 in
theorem en_s_M_335 {b : Nat} {s : State} (hts : ∀ w ∈ lw_tbl, w.before #[Value.ref b] s = true) (hgv : (Jvm.Cond.and given_1 narrow_1).before #[Value.ref b] s = true) : ∃ a t : Nat, vk_R "StreamNodesModel" 335 "when" a s ∧ sg_S a t 4 tx_when (fun q => s.heap.size ≤ q) s s.heap := by
  have hs := flat_of_before _ hgv
  have he : ∀ j : Nat, j < 4 → (Cond.eq (.elem (.field (.string "StreamNodesModel" 335) "java/lang/String" "value" "[B") (.int (Int32.ofNat j))) (.int (tx_when j))) ∈ flatC (Jvm.Cond.and given_1 narrow_1) := by decide +kernel
  exact en_str (by decide) (en_T hts nt_sr_M_335) (hs _ (by decide +kernel)) (hs _ (by decide +kernel)) (hs _ (by decide +kernel)) (hs _ (by decide +kernel)) (fun j hj => hs _ (he j hj)) en_hA
abbrev tx_not : Nat → Int32 := fun j => ([110, 111, 116] : List Int32).getD j 0
set_option maxRecDepth 100000 in
set_option maxHeartbeats 4000000 in
theorem en_s_M_337 {b : Nat} {s : State} (hts : ∀ w ∈ lw_tbl, w.before #[Value.ref b] s = true) (hgv : (Jvm.Cond.and given_1 narrow_1).before #[Value.ref b] s = true) : ∃ a t : Nat, vk_R "StreamNodesModel" 337 "not" a s ∧ sg_S a t 3 tx_not (fun q => s.heap.size ≤ q) s s.heap := by
  have hs := flat_of_before _ hgv
  have he : ∀ j : Nat, j < 3 → (Cond.eq (.elem (.field (.string "StreamNodesModel" 337) "java/lang/String" "value" "[B") (.int (Int32.ofNat j))) (.int (tx_not j))) ∈ flatC (Jvm.Cond.and given_1 narrow_1) := by decide +kernel
  exact en_str (by decide) (en_T hts nt_sr_M_337) (hs _ (by decide +kernel)) (hs _ (by decide +kernel)) (hs _ (by decide +kernel)) (hs _ (by decide +kernel)) (fun j hj => hs _ (he j hj)) en_hA
abbrev tx_and : Nat → Int32 := fun j => ([97, 110, 100] : List Int32).getD j 0
set_option maxRecDepth 100000 in
set_option maxHeartbeats 4000000 in
theorem en_s_M_339 {b : Nat} {s : State} (hts : ∀ w ∈ lw_tbl, w.before #[Value.ref b] s = true) (hgv : (Jvm.Cond.and given_1 narrow_1).before #[Value.ref b] s = true) : ∃ a t : Nat, vk_R "StreamNodesModel" 339 "and" a s ∧ sg_S a t 3 tx_and (fun q => s.heap.size ≤ q) s s.heap := by
  have hs := flat_of_before _ hgv
  have he : ∀ j : Nat, j < 3 → (Cond.eq (.elem (.field (.string "StreamNodesModel" 339) "java/lang/String" "value" "[B") (.int (Int32.ofNat j))) (.int (tx_and j))) ∈ flatC (Jvm.Cond.and given_1 narrow_1) := by decide +kernel
  exact en_str (by decide) (en_T hts nt_sr_M_339) (hs _ (by decide +kernel)) (hs _ (by decide +kernel)) (hs _ (by decide +kernel)) (hs _ (by decide +kernel)) (fun j hj => hs _ (he j hj)) en_hA
abbrev tx_or : Nat → Int32 := fun j => ([111, 114] : List Int32).getD j 0
set_option maxRecDepth 100000 in
set_option maxHeartbeats 4000000 in
theorem en_s_M_341 {b : Nat} {s : State} (hts : ∀ w ∈ lw_tbl, w.before #[Value.ref b] s = true) (hgv : (Jvm.Cond.and given_1 narrow_1).before #[Value.ref b] s = true) : ∃ a t : Nat, vk_R "StreamNodesModel" 341 "or" a s ∧ sg_S a t 2 tx_or (fun q => s.heap.size ≤ q) s s.heap := by
  have hs := flat_of_before _ hgv
  have he : ∀ j : Nat, j < 2 → (Cond.eq (.elem (.field (.string "StreamNodesModel" 341) "java/lang/String" "value" "[B") (.int (Int32.ofNat j))) (.int (tx_or j))) ∈ flatC (Jvm.Cond.and given_1 narrow_1) := by decide +kernel
  exact en_str (by decide) (en_T hts nt_sr_M_341) (hs _ (by decide +kernel)) (hs _ (by decide +kernel)) (hs _ (by decide +kernel)) (hs _ (by decide +kernel)) (fun j hj => hs _ (he j hj)) en_hA
abbrev tx_xor : Nat → Int32 := fun j => ([120, 111, 114] : List Int32).getD j 0
set_option maxRecDepth 100000 in
set_option maxHeartbeats 4000000 in
theorem en_s_M_343 {b : Nat} {s : State} (hts : ∀ w ∈ lw_tbl, w.before #[Value.ref b] s = true) (hgv : (Jvm.Cond.and given_1 narrow_1).before #[Value.ref b] s = true) : ∃ a t : Nat, vk_R "StreamNodesModel" 343 "xor" a s ∧ sg_S a t 3 tx_xor (fun q => s.heap.size ≤ q) s s.heap := by
  have hs := flat_of_before _ hgv
  have he : ∀ j : Nat, j < 3 → (Cond.eq (.elem (.field (.string "StreamNodesModel" 343) "java/lang/String" "value" "[B") (.int (Int32.ofNat j))) (.int (tx_xor j))) ∈ flatC (Jvm.Cond.and given_1 narrow_1) := by decide +kernel
  exact en_str (by decide) (en_T hts nt_sr_M_343) (hs _ (by decide +kernel)) (hs _ (by decide +kernel)) (hs _ (by decide +kernel)) (hs _ (by decide +kernel)) (fun j hj => hs _ (he j hj)) en_hA
abbrev tx_if : Nat → Int32 := fun j => ([105, 102] : List Int32).getD j 0
set_option maxRecDepth 100000 in
set_option maxHeartbeats 4000000 in
theorem en_s_M_345 {b : Nat} {s : State} (hts : ∀ w ∈ lw_tbl, w.before #[Value.ref b] s = true) (hgv : (Jvm.Cond.and given_1 narrow_1).before #[Value.ref b] s = true) : ∃ a t : Nat, vk_R "StreamNodesModel" 345 "if" a s ∧ sg_S a t 2 tx_if (fun q => s.heap.size ≤ q) s s.heap := by
  have hs := flat_of_before _ hgv
  have he : ∀ j : Nat, j < 2 → (Cond.eq (.elem (.field (.string "StreamNodesModel" 345) "java/lang/String" "value" "[B") (.int (Int32.ofNat j))) (.int (tx_if j))) ∈ flatC (Jvm.Cond.and given_1 narrow_1) := by decide +kernel
  exact en_str (by decide) (en_T hts nt_sr_M_345) (hs _ (by decide +kernel)) (hs _ (by decide +kernel)) (hs _ (by decide +kernel)) (hs _ (by decide +kernel)) (fun j hj => hs _ (he j hj)) en_hA
abbrev tx_then : Nat → Int32 := fun j => ([116, 104, 101, 110] : List Int32).getD j 0
set_option maxRecDepth 100000 in
set_option maxHeartbeats 4000000 in
theorem en_s_M_347 {b : Nat} {s : State} (hts : ∀ w ∈ lw_tbl, w.before #[Value.ref b] s = true) (hgv : (Jvm.Cond.and given_1 narrow_1).before #[Value.ref b] s = true) : ∃ a t : Nat, vk_R "StreamNodesModel" 347 "then" a s ∧ sg_S a t 4 tx_then (fun q => s.heap.size ≤ q) s s.heap := by
  have hs := flat_of_before _ hgv
  have he : ∀ j : Nat, j < 4 → (Cond.eq (.elem (.field (.string "StreamNodesModel" 347) "java/lang/String" "value" "[B") (.int (Int32.ofNat j))) (.int (tx_then j))) ∈ flatC (Jvm.Cond.and given_1 narrow_1) := by decide +kernel
  exact en_str (by decide) (en_T hts nt_sr_M_347) (hs _ (by decide +kernel)) (hs _ (by decide +kernel)) (hs _ (by decide +kernel)) (hs _ (by decide +kernel)) (fun j hj => hs _ (he j hj)) en_hA
abbrev tx_else : Nat → Int32 := fun j => ([101, 108, 115, 101] : List Int32).getD j 0
set_option maxRecDepth 100000 in
set_option maxHeartbeats 4000000 in
theorem en_s_M_349 {b : Nat} {s : State} (hts : ∀ w ∈ lw_tbl, w.before #[Value.ref b] s = true) (hgv : (Jvm.Cond.and given_1 narrow_1).before #[Value.ref b] s = true) : ∃ a t : Nat, vk_R "StreamNodesModel" 349 "else" a s ∧ sg_S a t 4 tx_else (fun q => s.heap.size ≤ q) s s.heap := by
  have hs := flat_of_before _ hgv
  have he : ∀ j : Nat, j < 4 → (Cond.eq (.elem (.field (.string "StreamNodesModel" 349) "java/lang/String" "value" "[B") (.int (Int32.ofNat j))) (.int (tx_else j))) ∈ flatC (Jvm.Cond.and given_1 narrow_1) := by decide +kernel
  exact en_str (by decide) (en_T hts nt_sr_M_349) (hs _ (by decide +kernel)) (hs _ (by decide +kernel)) (hs _ (by decide +kernel)) (hs _ (by decide +kernel)) (fun j hj => hs _ (he j hj)) en_hA
abbrev tx_pre : Nat → Int32 := fun j => ([112, 114, 101] : List Int32).getD j 0
set_option maxRecDepth 100000 in
set_option maxHeartbeats 4000000 in
theorem en_s_M_351 {b : Nat} {s : State} (hts : ∀ w ∈ lw_tbl, w.before #[Value.ref b] s = true) (hgv : (Jvm.Cond.and given_1 narrow_1).before #[Value.ref b] s = true) : ∃ a t : Nat, vk_R "StreamNodesModel" 351 "pre" a s ∧ sg_S a t 3 tx_pre (fun q => s.heap.size ≤ q) s s.heap := by
  have hs := flat_of_before _ hgv
  have he : ∀ j : Nat, j < 3 → (Cond.eq (.elem (.field (.string "StreamNodesModel" 351) "java/lang/String" "value" "[B") (.int (Int32.ofNat j))) (.int (tx_pre j))) ∈ flatC (Jvm.Cond.and given_1 narrow_1) := by decide +kernel
  exact en_str (by decide) (en_T hts nt_sr_M_351) (hs _ (by decide +kernel)) (hs _ (by decide +kernel)) (hs _ (by decide +kernel)) (hs _ (by decide +kernel)) (fun j hj => hs _ (he j hj)) en_hA
abbrev tx_current : Nat → Int32 := fun j => ([99, 117, 114, 114, 101, 110, 116] : List Int32).getD j 0
set_option maxRecDepth 100000 in
set_option maxHeartbeats 4000000 in
theorem en_s_M_353 {b : Nat} {s : State} (hts : ∀ w ∈ lw_tbl, w.before #[Value.ref b] s = true) (hgv : (Jvm.Cond.and given_1 narrow_1).before #[Value.ref b] s = true) : ∃ a t : Nat, vk_R "StreamNodesModel" 353 "current" a s ∧ sg_S a t 7 tx_current (fun q => s.heap.size ≤ q) s s.heap := by
  have hs := flat_of_before _ hgv
  have he : ∀ j : Nat, j < 7 → (Cond.eq (.elem (.field (.string "StreamNodesModel" 353) "java/lang/String" "value" "[B") (.int (Int32.ofNat j))) (.int (tx_current j))) ∈ flatC (Jvm.Cond.and given_1 narrow_1) := by decide +kernel
  exact en_str (by decide) (en_T hts nt_sr_M_353) (hs _ (by decide +kernel)) (hs _ (by decide +kernel)) (hs _ (by decide +kernel)) (hs _ (by decide +kernel)) (fun j hj => hs _ (he j hj)) en_hA
abbrev tx_fby : Nat → Int32 := fun j => ([102, 98, 121] : List Int32).getD j 0
set_option maxRecDepth 100000 in
set_option maxHeartbeats 4000000 in
theorem en_s_M_355 {b : Nat} {s : State} (hts : ∀ w ∈ lw_tbl, w.before #[Value.ref b] s = true) (hgv : (Jvm.Cond.and given_1 narrow_1).before #[Value.ref b] s = true) : ∃ a t : Nat, vk_R "StreamNodesModel" 355 "fby" a s ∧ sg_S a t 3 tx_fby (fun q => s.heap.size ≤ q) s s.heap := by
  have hs := flat_of_before _ hgv
  have he : ∀ j : Nat, j < 3 → (Cond.eq (.elem (.field (.string "StreamNodesModel" 355) "java/lang/String" "value" "[B") (.int (Int32.ofNat j))) (.int (tx_fby j))) ∈ flatC (Jvm.Cond.and given_1 narrow_1) := by decide +kernel
  exact en_str (by decide) (en_T hts nt_sr_M_355) (hs _ (by decide +kernel)) (hs _ (by decide +kernel)) (hs _ (by decide +kernel)) (hs _ (by decide +kernel)) (fun j hj => hs _ (he j hj)) en_hA
abbrev tx_div : Nat → Int32 := fun j => ([100, 105, 118] : List Int32).getD j 0
set_option maxRecDepth 100000 in
set_option maxHeartbeats 4000000 in
theorem en_s_M_357 {b : Nat} {s : State} (hts : ∀ w ∈ lw_tbl, w.before #[Value.ref b] s = true) (hgv : (Jvm.Cond.and given_1 narrow_1).before #[Value.ref b] s = true) : ∃ a t : Nat, vk_R "StreamNodesModel" 357 "div" a s ∧ sg_S a t 3 tx_div (fun q => s.heap.size ≤ q) s s.heap := by
  have hs := flat_of_before _ hgv
  have he : ∀ j : Nat, j < 3 → (Cond.eq (.elem (.field (.string "StreamNodesModel" 357) "java/lang/String" "value" "[B") (.int (Int32.ofNat j))) (.int (tx_div j))) ∈ flatC (Jvm.Cond.and given_1 narrow_1) := by decide +kernel
  exact en_str (by decide) (en_T hts nt_sr_M_357) (hs _ (by decide +kernel)) (hs _ (by decide +kernel)) (hs _ (by decide +kernel)) (hs _ (by decide +kernel)) (fun j hj => hs _ (he j hj)) en_hA
abbrev tx_mod : Nat → Int32 := fun j => ([109, 111, 100] : List Int32).getD j 0
set_option maxRecDepth 100000 in
set_option maxHeartbeats 4000000 in
theorem en_s_M_359 {b : Nat} {s : State} (hts : ∀ w ∈ lw_tbl, w.before #[Value.ref b] s = true) (hgv : (Jvm.Cond.and given_1 narrow_1).before #[Value.ref b] s = true) : ∃ a t : Nat, vk_R "StreamNodesModel" 359 "mod" a s ∧ sg_S a t 3 tx_mod (fun q => s.heap.size ≤ q) s s.heap := by
  have hs := flat_of_before _ hgv
  have he : ∀ j : Nat, j < 3 → (Cond.eq (.elem (.field (.string "StreamNodesModel" 359) "java/lang/String" "value" "[B") (.int (Int32.ofNat j))) (.int (tx_mod j))) ∈ flatC (Jvm.Cond.and given_1 narrow_1) := by decide +kernel
  exact en_str (by decide) (en_T hts nt_sr_M_359) (hs _ (by decide +kernel)) (hs _ (by decide +kernel)) (hs _ (by decide +kernel)) (hs _ (by decide +kernel)) (fun j hj => hs _ (he j hj)) en_hA
abbrev tx_true : Nat → Int32 := fun j => ([116, 114, 117, 101] : List Int32).getD j 0
set_option maxRecDepth 100000 in
set_option maxHeartbeats 4000000 in
theorem en_s_M_361 {b : Nat} {s : State} (hts : ∀ w ∈ lw_tbl, w.before #[Value.ref b] s = true) (hgv : (Jvm.Cond.and given_1 narrow_1).before #[Value.ref b] s = true) : ∃ a t : Nat, vk_R "StreamNodesModel" 361 "true" a s ∧ sg_S a t 4 tx_true (fun q => s.heap.size ≤ q) s s.heap := by
  have hs := flat_of_before _ hgv
  have he : ∀ j : Nat, j < 4 → (Cond.eq (.elem (.field (.string "StreamNodesModel" 361) "java/lang/String" "value" "[B") (.int (Int32.ofNat j))) (.int (tx_true j))) ∈ flatC (Jvm.Cond.and given_1 narrow_1) := by decide +kernel
  exact en_str (by decide) (en_T hts nt_sr_M_361) (hs _ (by decide +kernel)) (hs _ (by decide +kernel)) (hs _ (by decide +kernel)) (hs _ (by decide +kernel)) (fun j hj => hs _ (he j hj)) en_hA
abbrev tx_false : Nat → Int32 := fun j => ([102, 97, 108, 115, 101] : List Int32).getD j 0
set_option maxRecDepth 100000 in
set_option maxHeartbeats 4000000 in
theorem en_s_M_363 {b : Nat} {s : State} (hts : ∀ w ∈ lw_tbl, w.before #[Value.ref b] s = true) (hgv : (Jvm.Cond.and given_1 narrow_1).before #[Value.ref b] s = true) : ∃ a t : Nat, vk_R "StreamNodesModel" 363 "false" a s ∧ sg_S a t 5 tx_false (fun q => s.heap.size ≤ q) s s.heap := by
  have hs := flat_of_before _ hgv
  have he : ∀ j : Nat, j < 5 → (Cond.eq (.elem (.field (.string "StreamNodesModel" 363) "java/lang/String" "value" "[B") (.int (Int32.ofNat j))) (.int (tx_false j))) ∈ flatC (Jvm.Cond.and given_1 narrow_1) := by decide +kernel
  exact en_str (by decide) (en_T hts nt_sr_M_363) (hs _ (by decide +kernel)) (hs _ (by decide +kernel)) (hs _ (by decide +kernel)) (hs _ (by decide +kernel)) (fun j hj => hs _ (he j hj)) en_hA
set_option maxRecDepth 100000 in
set_option maxHeartbeats 4000000 in
theorem en_S {b : Nat} {s : State} (hts : ∀ w ∈ lw_tbl, w.before #[Value.ref b] s = true) (hgv : (Jvm.Cond.and given_1 narrow_1).before #[Value.ref b] s = true) : ∃ a t : Nat, sk_P a t (fun q => s.heap.size ≤ q) s := by
  obtain ⟨a, t, h1, h2⟩ := en_s_S_14 hts hgv
  exact ⟨a, t, h1, h2, en_E hts hgv, va_Nw.of rfl (en_T hts (by decide +kernel)), va_Nw.of rfl (en_T hts (by decide +kernel)), va_Nw.of rfl (en_T hts (by decide +kernel))⟩
