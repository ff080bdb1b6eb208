/-! stretches of code: fields, arrays, answers, calls, what is thrown -/
def KF (ci : Nat) (C : String) (T : u_T) (N : Nat) (ty : Nat → FieldType) : Prop := kl[ci]? = some (C, T, N) ∧ (∀ w ∈ u_ws C T N, w ∈ gG) ∧ (∀ k, k < N → parseFieldDescriptor (T k).2.2.1 = some (ty k)) ∧ ∀ a, a < N → ∀ b, b < N → a ≠ b → (T a).2.1 ≠ (T b).2.1
theorem kf_S : KF 0 R_S T_S 15 ty_S := ⟨rfl, gi_S, to_S, nm_S⟩
theorem kf_M : KF 12 R_M T_M 84 ty_M := ⟨rfl, gi_M, to_M, nm_M⟩
section SH
variable {Γ : Ctx} {B : Tb} {mt : MT} {R : Room} {ce sl : Nat} {ζ : Type} {K : Kd ζ} {pc : Nat} {lv lv' : List (Nat × Value)} {st : List Value} {γ : St} {o : Option ζ}
theorem wB_at {j : Nat} {x : (Nat × Nat) ⊕ (Nat × List Nat)} (h : B[j]? = some x) : (wB Γ γ 0 B)[j]? = some (Γ.a j, ek Γ (γ j) x) := by
  have := wB_get (Γ := Γ) (γ := γ) (n := 0) h
  rwa [Nat.zero_add] at this
/-- getfield of an int, of a reference -/
theorem sb_get {j ci N index : Nat} {ks : List Nat} {C : String} {T : u_T} {ty : Nat → FieldType} (F : KF ci C T N ty) (k : Nat) (hj : B[j]? = some (.inr (ci, ks))) (hk : ks[k]? = some 0) (hN : k < N) (hlink : Cond.fieldLink mt.1 index (T k).1 (T k).2.1 (T k).2.2.1 ∈ gG) (d : decode mt.2.1 pc = .ok (.getfield index, 3))
    (kk : i32 (γ j k) → SB Γ B mt R ce sl K (pc + 3) lv (vI (γ j k) :: st) γ o) : SB Γ B mt R ce sl K pc lv (vR Γ j :: st) γ o := fun z hz p e s m args below meth c H locs ls X hc hw hl hP hS =>
  va_get X.x X.b X.G F.2.1 X.own X.K hP j (wB_at hj) F.1 k hN (X.G _ hlink) (fun _ h => h) (fvals_get hk) d (by
    have h : i32 (γ j k) := hw j k (by unfold lgB; rw [hj])
    simp only [Nat.zero_add]
    exact kk h z hz p e s m args below meth c H locs ls X hc hw hl hP hS)
theorem sb_getR {j r ci N index : Nat} {ks : List Nat} {C : String} {T : u_T} {ty : Nat → FieldType} (F : KF ci C T N ty) (k : Nat) (hj : B[j]? = some (.inr (ci, ks))) (hk : ks[k]? = some (r + 1)) (hN : k < N) (hlink : Cond.fieldLink mt.1 index (T k).1 (T k).2.1 (T k).2.2.1 ∈ gG) (d : decode mt.2.1 pc = .ok (.getfield index, 3))
    (kk : SB Γ B mt R ce sl K (pc + 3) lv (vR Γ r :: st) γ o) : SB Γ B mt R ce sl K pc lv (vR Γ j :: st) γ o := fun z hz p e s m args below meth c H locs ls X hc hw hl hP hS =>
  va_get X.x X.b X.G F.2.1 X.own X.K hP j (wB_at hj) F.1 k hN (X.G _ hlink) (fun _ h => h) (fvals_get hk) d (kk z hz p e s m args below meth c H locs ls X hc hw hl hP hS)
theorem ek_put {j ci k : Nat} {ks : List Nat} {v : Int} (hj : B[j]? = some (.inr (ci, ks))) (hk : ks[k]? = some 0) : (wB Γ γ 0 B).set j (Γ.a j, .inr (ci, (fvals Γ.a (γ j) 0 ks).set k (.int (iI v)))) = wB Γ (setA γ j k v) 0 B :=
  wB_set hj (by exact congrArg (fun q => (Sum.inr (ci, q) : va_E)) (fvals_set hk setA_s (fun m hm => setA_n (Or.inr hm)))) (fun g hg => setA_o hg)
end SH
section SH2
variable {Γ : Ctx} {B : Tb} {mt : MT} {R : Room} {ce sl : Nat} {ζ : Type} {K : Kd ζ} {pc : Nat} {lv lv' : List (Nat × Value)} {st : List Value} {γ : St} {o : Option ζ}
theorem sb_put {j ci N index : Nat} {ks : List Nat} {C : String} {T : u_T} {ty : Nat → FieldType} {v : Int} (F : KF ci C T N ty) (k : Nat) (hv : i32 v) (hj : B[j]? = some (.inr (ci, ks))) (hk : ks[k]? = some 0) (hN : k < N) (hfin : (T k).2.2.2 = false) (ht : ty k = .int) (hlink : Cond.fieldLink mt.1 index (T k).1 (T k).2.1 (T k).2.2.1 ∈ gG) (d : decode mt.2.1 pc = .ok (.putfield index, 3))
    (kk : SB Γ B mt R ce sl K (pc + 3) lv st (setA γ j k v) o) : SB Γ B mt R ce sl K pc lv (vI v :: vR Γ j :: st) γ o := fun z hz p e s m args below meth c H locs ls X hc hw hl hP hS =>
  va_put (ty := .int) X.x X.b X.G F.2.1 ty F.2.2.1 F.2.2.2 X.own X.K hP (wB_D X.ap γ) hS j (wB_at hj) F.1 k hN (X.G _ hlink) (fun _ h => h) hfin (by rw [F.2.2.1 k hN, ht]) rfl rfl (by rw [fvals_len]; exact (List.getElem?_eq_some_iff.mp hk).1) d (fun H1 locs1 h1 _ h2 => by
    rw [ek_put hj hk] at h1
    exact kk z hz p e s m args below meth c H1 locs1 ls X hc (hw.set hv) hl h1 h2)
theorem sb_putZ {j ci N index : Nat} {ks : List Nat} {C : String} {T : u_T} {ty : Nat → FieldType} {v : Int} (F : KF ci C T N ty) (k : Nat) (hv : v = 0 ∨ v = 1) (hj : B[j]? = some (.inr (ci, ks))) (hk : ks[k]? = some 0) (hN : k < N) (hfin : (T k).2.2.2 = false) (ht : ty k = .boolean) (hlink : Cond.fieldLink mt.1 index (T k).1 (T k).2.1 (T k).2.2.1 ∈ gG) (d : decode mt.2.1 pc = .ok (.putfield index, 3))
    (kk : SB Γ B mt R ce sl K (pc + 3) lv st (setA γ j k v) o) : SB Γ B mt R ce sl K pc lv (vI v :: vR Γ j :: st) γ o := fun z hz p e s m args below meth c H locs ls X hc hw hl hP hS =>
  va_put (ty := .boolean) X.x X.b X.G F.2.1 ty F.2.2.1 F.2.2.2 X.own X.K hP (wB_D X.ap γ) hS j (wB_at hj) F.1 k hN (X.G _ hlink) (fun _ h => h) hfin (by rw [F.2.2.1 k hN, ht]) (by rcases hv with rfl | rfl <;> rfl) (by rcases hv with rfl | rfl <;> rfl) (by rw [fvals_len]; exact (List.getElem?_eq_some_iff.mp hk).1) d (fun H1 locs1 h1 _ h2 => by
    rw [ek_put hj hk] at h1
    exact kk z hz p e s m args below meth c H1 locs1 ls X hc (hw.set (by rcases hv with rfl | rfl <;> decide)) hl h1 h2)
theorem ek_i {f : Int → Int} {t n : Nat} (h : t ≠ 2) : ek Γ f (.inl (t, n)) = .inl (cT Γ t, n, .inl (fun k : Nat => iI (f k))) := if_neg h
theorem ek_l {f : Int → Int} {n : Nat} : ek Γ f (.inl (2, n)) = .inl (cT Γ 2, n, .inr (.inl (fun k : Nat => iL (f k)))) := by simp [ek]
theorem wB_ati {j t n : Nat} (hj : B[j]? = some (.inl (t, n))) (h : t ≠ 2) : (wB Γ γ 0 B)[j]? = some (Γ.a j, .inl (cT Γ t, n, .inl (fun k : Nat => iI (γ j k)))) := by rw [wB_at hj, ek_i h]
theorem wB_atl {j n : Nat} (hj : B[j]? = some (.inl (2, n))) : (wB Γ γ 0 B)[j]? = some (Γ.a j, .inl (cT Γ 2, n, .inr (.inl (fun k : Nat => iL (γ j k))))) := by rw [wB_at hj, ek_l]
theorem upd_iI {f : Int → Int} {i v : Int} (h : 0 ≤ i ∧ i ≤ 2147483647) : upd (fun k : Nat => iI (f k)) (iI i).toNatClampNeg (iI v) = fun k : Nat => iI (if (k : Int) = i then v else f k) := by
  funext k
  have h1 := iI_clamp h
  by_cases e : k = (iI i).toNatClampNeg
  · subst e
    rw [pk_us, if_pos h1]
  · rw [pk_un e, if_neg (fun z => e (by omega))]
theorem upd_iL {f : Int → Int} {i v : Int} (h : 0 ≤ i ∧ i ≤ 2147483647) : vp_updL (fun k : Nat => iL (f k)) (iI i).toNatClampNeg (iL v) = fun k : Nat => iL (if (k : Int) = i then v else f k) := by
  funext k
  have h1 := iI_clamp h
  by_cases e : k = (iI i).toNatClampNeg
  · subst e
    rw [pk_uLs, if_pos h1]
  · rw [pk_uLn e, if_neg (fun z => e (by omega))]
theorem setA_f {j : Nat} {i v : Int} : setA γ j i v j = fun k => if k = i then v else γ j k := by
  funext k
  simp [setA]
theorem wB_ast {j t n : Nat} {i v : Int} (hj : B[j]? = some (.inl (t, n))) (ht : t ≠ 2) (hi : 0 ≤ i ∧ i ≤ 2147483647) : (wB Γ γ 0 B).set j (Γ.a j, .inl (cT Γ t, n, .inl (upd (fun k : Nat => iI (γ j k)) (iI i).toNatClampNeg (iI v)))) = wB Γ (setA γ j i v) 0 B :=
  wB_set hj (by rw [ek_i ht, upd_iI hi, setA_f]) (fun g hg => setA_o hg)
theorem wB_astL {j n : Nat} {i v : Int} (hj : B[j]? = some (.inl (2, n))) (hi : 0 ≤ i ∧ i ≤ 2147483647) : (wB Γ γ 0 B).set j (Γ.a j, .inl (cT Γ 2, n, .inr (.inl (vp_updL (fun k : Nat => iL (γ j k)) (iI i).toNatClampNeg (iL v))))) = wB Γ (setA γ j i v) 0 B :=
  wB_set hj (by rw [ek_l, upd_iL hi, setA_f]) (fun g hg => setA_o hg)
theorem lgB_f {j t n : Nat} (hj : B[j]? = some (.inl (t, n))) (ht : t ≠ 2) : lgB B j = false := by
  unfold lgB
  rw [hj]
  simpa using ht
/-- iaload, baload of a byte array, of a boolean array -/
theorem sb_iald {j n : Nat} {i : Int} {n0 : Int} {inst : Decidable (inb i n0)} (hj : B[j]? = some (.inl (0, n))) (hq : (n : Int) = n0) (hn : n < 2 ^ 31) (d : decode mt.2.1 pc = .ok (.iaload, 1)) (kk : inb i n0 → i32 (γ j i) → SB Γ B mt R ce sl K (pc + 1) lv (vI (γ j i) :: st) γ o) : SB Γ B mt R ce sl K pc lv (vI i :: vR Γ j :: st) γ (@chk (inb i n0) ζ inst o) := by
  subst hq
  exact sb_chk fun hi z hz p e s m args below meth c H locs ls X hc hw hl hP hS =>
  va_iald X.x X.b X.K hP j 0 (wB_ati hj (by decide)) rfl (iI_in hi hn) d (by rw [iI_clamp (z := i) (by omega)]; exact kk hi (hw j i (lgB_f hj (by decide))) z hz p e s m args below meth c H locs ls X hc hw hl hP hS)
theorem sb_bald {j n : Nat} {i : Int} {n0 : Int} {inst : Decidable (inb i n0)} (hj : B[j]? = some (.inl (1, n))) (hq : (n : Int) = n0) (hn : n < 2 ^ 31) (d : decode mt.2.1 pc = .ok (.baload, 1)) (kk : inb i n0 → i32 (γ j i) → SB Γ B mt R ce sl K (pc + 1) lv (vI (γ j i) :: st) γ o) : SB Γ B mt R ce sl K pc lv (vI i :: vR Γ j :: st) γ (@chk (inb i n0) ζ inst o) := by
  subst hq
  exact sb_chk fun hi z hz p e s m args below meth c H locs ls X hc hw hl hP hS =>
  va_bald X.x X.b X.K hP j 1 (wB_ati hj (by decide)) rfl (iI_in hi hn) d (by rw [iI_clamp (z := i) (by omega)]; exact kk hi (hw j i (lgB_f hj (by decide))) z hz p e s m args below meth c H locs ls X hc hw hl hP hS)
theorem sb_zald {j n : Nat} {i : Int} {n0 : Int} {inst : Decidable (inb i n0)} (hj : B[j]? = some (.inl (3, n))) (hq : (n : Int) = n0) (hn : n < 2 ^ 31) (d : decode mt.2.1 pc = .ok (.baload, 1)) (kk : inb i n0 → i32 (γ j i) → SB Γ B mt R ce sl K (pc + 1) lv (vI (γ j i) :: st) γ o) : SB Γ B mt R ce sl K pc lv (vI i :: vR Γ j :: st) γ (@chk (inb i n0) ζ inst o) := by
  subst hq
  exact sb_chk fun hi z hz p e s m args below meth c H locs ls X hc hw hl hP hS =>
  va_zald X.x X.b X.K hP j 3 (wB_ati hj (by decide)) rfl (iI_in hi hn) d (by rw [iI_clamp (z := i) (by omega)]; exact kk hi (hw j i (lgB_f hj (by decide))) z hz p e s m args below meth c H locs ls X hc hw hl hP hS)
theorem sb_lald {j n : Nat} {i : Int} {n0 : Int} {inst : Decidable (inb i n0)} (hj : B[j]? = some (.inl (2, n))) (hq : (n : Int) = n0) (hn : n < 2 ^ 31) (d : decode mt.2.1 pc = .ok (.laload, 1)) (kk : inb i n0 → SB Γ B mt R ce sl K (pc + 1) lv (.long (iL (γ j i)) :: st) γ o) : SB Γ B mt R ce sl K pc lv (vI i :: vR Γ j :: st) γ (@chk (inb i n0) ζ inst o) := by
  subst hq
  exact sb_chk fun hi z hz p e s m args below meth c H locs ls X hc hw hl hP hS =>
  va_lald X.x X.b X.K hP j 2 (wB_atl hj) rfl (iI_in hi hn) d (by rw [iI_clamp (z := i) (by omega)]; exact kk hi z hz p e s m args below meth c H locs ls X hc hw hl hP hS)
/-- iastore, bastore to a boolean array -/
theorem sb_iast {j n : Nat} {i v : Int} {n0 : Int} {inst : Decidable (inb i n0)} (hv : i32 v) (hj : B[j]? = some (.inl (0, n))) (hq : (n : Int) = n0) (hn : n < 2 ^ 31) (d : decode mt.2.1 pc = .ok (.iastore, 1)) (kk : inb i n0 → SB Γ B mt R ce sl K (pc + 1) lv st (setA γ j i v) o) : SB Γ B mt R ce sl K pc lv (vI v :: vI i :: vR Γ j :: st) γ (@chk (inb i n0) ζ inst o) := by
  subst hq
  exact sb_chk fun hi z hz p e s m args below meth c H locs ls X hc hw hl hP hS =>
  va_iast X.x X.b X.K hP (wB_D X.ap γ) hS j 0 (wB_ati hj (by decide)) rfl (iI_in hi hn) d (fun H1 locs1 h1 _ h2 => by
    have h1 : va_P Γ.D kl ((wB Γ γ 0 B).set j (Γ.a j, .inl (cT Γ 0, n, .inl (upd (fun k : Nat => iI (γ j k)) (iI i).toNatClampNeg (iI v))))) H1 := h1
    rw [wB_ast hj (by decide) (by omega)] at h1
    exact kk hi z hz p e s m args below meth c H1 locs1 ls X hc (hw.set hv) hl h1 h2)
theorem sb_zast {j n : Nat} {i v : Int} {n0 : Int} {inst : Decidable (inb i n0)} (hv : v = 0 ∨ v = 1) (hj : B[j]? = some (.inl (3, n))) (hq : (n : Int) = n0) (hn : n < 2 ^ 31) (d : decode mt.2.1 pc = .ok (.bastore, 1)) (kk : inb i n0 → SB Γ B mt R ce sl K (pc + 1) lv st (setA γ j i v) o) : SB Γ B mt R ce sl K pc lv (vI v :: vI i :: vR Γ j :: st) γ (@chk (inb i n0) ζ inst o) := by
  subst hq
  exact sb_chk fun hi z hz p e s m args below meth c H locs ls X hc hw hl hP hS =>
  va_zast X.x X.b X.K hP (wB_D X.ap γ) hS j 3 (wB_ati hj (by decide)) rfl (iI_in hi hn) d (fun H1 locs1 h1 _ h2 => by
    rw [show vp_nar .boolean (iI v) = iI v from by rcases hv with rfl | rfl <;> decide] at h1
    have h1 : va_P Γ.D kl ((wB Γ γ 0 B).set j (Γ.a j, .inl (cT Γ 3, n, .inl (upd (fun k : Nat => iI (γ j k)) (iI i).toNatClampNeg (iI v))))) H1 := h1
    rw [wB_ast hj (by decide) (by omega)] at h1
    exact kk hi z hz p e s m args below meth c H1 locs1 ls X hc (hw.set (by rcases hv with rfl | rfl <;> decide)) hl h1 h2)
theorem sb_last {j n : Nat} {i v : Int} {n0 : Int} {inst : Decidable (inb i n0)} (hj : B[j]? = some (.inl (2, n))) (hq : (n : Int) = n0) (hn : n < 2 ^ 31) (d : decode mt.2.1 pc = .ok (.lastore, 1)) (kk : inb i n0 → SB Γ B mt R ce sl K (pc + 1) lv st (setA γ j i v) o) : SB Γ B mt R ce sl K pc lv (.long (iL v) :: vI i :: vR Γ j :: st) γ (@chk (inb i n0) ζ inst o) := by
  subst hq
  exact sb_chk fun hi z hz p e s m args below meth c H locs ls X hc hw hl hP hS =>
  va_last X.x X.b X.K hP (wB_D X.ap γ) hS j 2 (wB_atl hj) rfl (iI_in hi hn) d (fun H1 locs1 h1 _ h2 => by
    have h1 : va_P Γ.D kl ((wB Γ γ 0 B).set j (Γ.a j, .inl (cT Γ 2, n, .inr (.inl (vp_updL (fun k : Nat => iL (γ j k)) (iI i).toNatClampNeg (iL v)))))) H1 := h1
    rw [wB_astL hj (by omega)] at h1
    exact kk hi z hz p e s m args below meth c H1 locs1 ls X hc (hw.setL (by unfold lgB; rw [hj]; rfl)) hl h1 h2)
theorem sb_alen {j t n : Nat} (q : Int) (hj : B[j]? = some (.inl (t, n))) (ht : t = 0 ∨ t = 1 ∨ t = 3) (hq : (n : Int) = q) (d : decode mt.2.1 pc = .ok (.arraylength, 1)) (kk : SB Γ B mt R ce sl K (pc + 1) lv (vI q :: st) γ o) : SB Γ B mt R ce sl K pc lv (vR Γ j :: st) γ o := fun z hz p e s m args below meth c H locs ls X hc hw hl hP hS => by
  subst hq
  have e9 : Int32.ofNat n = iI (n : Int) := Int32.ofInt_eq_ofNat.symm
  rcases ht with rfl | rfl | rfl
  · exact va_alen X.x X.b X.K hP j 0 (wB_ati hj (by decide)) (ty := .int) rfl e9 d (kk z hz p e s m args below meth c H locs ls X hc hw hl hP hS)
  · exact va_alen X.x X.b X.K hP j 1 (wB_ati hj (by decide)) (ty := .byte) rfl e9 d (kk z hz p e s m args below meth c H locs ls X hc hw hl hP hS)
  · exact va_alen X.x X.b X.K hP j 3 (wB_ati hj (by decide)) (ty := .boolean) rfl e9 d (kk z hz p e s m args below meth c H locs ls X hc hw hl hP hS)
end SH2
