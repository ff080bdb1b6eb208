/-! bytes: what feed needs -/
def i2b (x : Int) : Int := ((iI x).toInt8.toInt32).toInt
def iushr (x y : Int) : Int := (((iI x).toUInt32 >>> ((iI y).toUInt32 &&& Int32.toUInt32 31)).toInt32).toInt
theorem i2b_b (x : Int) : i32 (i2b x) := i32_of _
theorem iushr_b (x y : Int) : i32 (iushr x y) := i32_of _
theorem i2b_n (x : Int) : vp_nar .byte (iI (i2b x)) = iI (i2b x) := by
  have h : iI (i2b x) = (iI x).toInt8.toInt32 := iI_of _
  rw [h]
  exact pk_vb _
section BY
variable {Γ : Ctx} {B : Tb} {mt : MT} {R : Room} {ce sl : Nat} {ζ : Type} {K : Kd ζ} {pc : Nat} {lv : List (Nat × Value)} {st : List Value} {γ : St} {o : Option ζ}
theorem sb_i2b {x : Int} (d : decode mt.2.1 pc = .ok (.i2b, 1)) (k : SB Γ B mt R ce sl K (pc + 1) lv (vI (i2b x) :: st) γ o) : SB Γ B mt R ce sl K pc lv (vI x :: st) γ o := fun z hz p e s m args below meth c H locs ls X hc hw hl hP hS => lv_i2b X.x X.b d rfl (sb_nm k z hz p e s m args below meth c H locs ls X hc hw hl hP hS)
theorem sb_iushr {x y : Int} (d : decode mt.2.1 pc = .ok (.iushr, 1)) (k : SB Γ B mt R ce sl K (pc + 1) lv (vI (iushr x y) :: st) γ o) : SB Γ B mt R ce sl K pc lv (vI y :: vI x :: st) γ o := fun z hz p e s m args below meth c H locs ls X hc hw hl hP hS => lv_iushr X.x X.b d rfl (sb_nm k z hz p e s m args below meth c H locs ls X hc hw hl hP hS)
theorem sb_bast {j n : Nat} {i v : Int} {n0 : Int} {inst : Decidable (inb i n0)} (hv : i32 v) (hb : vp_nar .byte (iI v) = iI v) (hj : B[j]? = some (.inl (1, n))) (hq : (n : Int) = n0) (hn : n < 2 ^ 31) (d : decode mt.2.1 pc = .ok (.bastore, 1)) (kk : inb i n0 → SB Γ B mt R ce sl K (pc + 1) lv st (setA γ j i v) o) : SB Γ B mt R ce sl K pc lv (vI v :: vI i :: vR Γ j :: st) γ (@chk (inb i n0) ζ inst o) := by
  subst hq
  exact sb_chk fun hi z hz p e s m args below meth c H locs ls X hc hw hl hP hS =>
    va_bast X.x X.b X.K hP (wB_D X.ap γ) hS j 1 (wB_ati hj (by decide)) rfl (iI_in hi hn) d (fun H1 locs1 h1 _ h2 => by
      rw [hb] at h1
      have h1 : va_P Γ.D kl ((wB Γ γ 0 B).set j (Γ.a j, .inl (cT Γ 1, n, .inl (upd (fun k : Nat => iI (γ j k)) (iI i).toNatClampNeg (iI v))))) H1 := h1
      rw [wB_ast hj (by decide) (by omega)] at h1
      exact kk hi z hz p e s m args below meth c H1 locs1 ls X hc (hw.set hv) hl h1 h2)
end BY
