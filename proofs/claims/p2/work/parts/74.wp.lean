/-! what a function does: it answers, and its answer has a property -/
def wp {α : Type} (o : Option α) (Q : α → Prop) : Prop := match o with
  | none => False
  | some a => Q a
section WP
variable {α ζ : Type}
theorem wp_some {a : α} {Q : α → Prop} (h : Q a) : wp (some a) Q := h
theorem wp_mono {o : Option α} {P Q : α → Prop} (h : wp o P) (k : ∀ a, P a → Q a) : wp o Q := by
  cases o with
  | none => exact h
  | some a => exact k a h
theorem wp_chk {c : Prop} {inst : Decidable c} {o : Option α} {Q : α → Prop} (h : c) (k : wp o Q) : wp (@chk c α inst o) Q := by
  rw [chk_t h]
  exact k
theorem wp_ite {c : Prop} {inst : Decidable c} {a b : Option α} {Q : α → Prop} (h1 : c → wp a Q) (h2 : ¬ c → wp b Q) : wp (@ite (Option α) c inst a b) Q := by
  by_cases h : c
  · rw [if_pos h]; exact h1 h
  · rw [if_neg h]; exact h2 h
theorem wp_ap {β : Type} {x : β} {k : β → Option ζ} {Q : ζ → Prop} (h : ∀ y, y = x → wp (k y) Q) : wp (ap x k) Q := h x rfl
/-- a write: the new state by what it holds -/
theorem wp_set {γ : St} {j : Nat} {i v : Int} {k : St → Option ζ} {Q : ζ → Prop} (h : ∀ γ' : St, γ' j i = v → (∀ g a, (g ≠ j ∨ a ≠ i) → γ' g a = γ g a) → wp (k γ') Q) : wp (ap (setA γ j i v) k) Q := h _ setA_s (fun _ _ h => setA_n h)
theorem wp_fill {γ : St} {j : Nat} {lo hi v : Int} {k : St → Option ζ} {Q : ζ → Prop} (h : ∀ γ' : St, (∀ a, lo ≤ a → a < hi → γ' j a = v) → (∀ g a, (g ≠ j ∨ a < lo ∨ hi ≤ a) → γ' g a = γ g a) → wp (k γ') Q) : wp (ap (flA γ j lo hi v) k) Q := h _ (fun a h1 h2 => by show (if _ then _ else _) = _; rw [if_pos ⟨rfl, h1, h2⟩]) (fun g a h => by show (if _ then _ else _) = _; rw [if_neg (by omega)])
theorem wp_bnd {o : Option (Int × St)} {k : Int → St → Option ζ} {P : Int × St → Prop} {Q : ζ → Prop} (h : wp o P) (kk : ∀ r γ, P (r, γ) → wp (k r γ) Q) : wp (bndN o k) Q := by
  cases o with
  | none => exact h
  | some z => exact kk z.1 z.2 h
end WP
theorem iand_511 (x : Int) : 0 ≤ iand x 511 ∧ iand x 511 < 512 := by
  unfold iand
  have h : (iI x &&& iI 511).toBitVec.toNat ≤ 511 := by
    show ((iI x).toBitVec &&& (iI 511).toBitVec).toNat ≤ 511
    rw [BitVec.toNat_and]
    exact Nat.and_le_right
  have h2 : (iI x &&& iI 511).toInt = ((iI x &&& iI 511).toBitVec.toNat : Int) := by
    show (iI x &&& iI 511).toBitVec.toInt = _
    rw [BitVec.toInt_eq_toNat_cond, if_pos (by omega)]
  omega
