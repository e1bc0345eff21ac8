/-! loops by an invariant and a measure -/
theorem lp_inv {σ ε : Type} {f : σ → Option (σ ⊕ ε)} (I : σ → Prop) (μ : σ → Nat) (Q : ε → Prop) (h : ∀ s, I s → (∃ t, f s = some (Sum.inl t) ∧ I t ∧ μ t < μ s) ∨ (∃ e, f s = some (Sum.inr e) ∧ Q e)) : ∀ (N : Nat) (s : σ), I s → μ s < N → ∃ e, lp f N s = some e ∧ Q e := by
  intro N
  induction N with
  | zero => intro s _ hm; omega
  | succ N ih =>
    intro s hs hm
    rcases h s hs with ⟨t, h1, h2, h3⟩ | ⟨e, h1, h2⟩
    · obtain ⟨e, h4, h5⟩ := ih t h2 (by omega)
      exact ⟨e, by rw [lp, h1]; exact h4, h5⟩
    · exact ⟨e, by rw [lp, h1], h2⟩
theorem lp_ex {σ ε : Type} {f : σ → Option (σ ⊕ ε)} (I : σ → Prop) (μ : σ → Nat) (Q : ε → Prop) (s : σ) (hs : I s) (hm : μ s < FU) (h : ∀ s, I s → (∃ t, f s = some (Sum.inl t) ∧ I t ∧ μ t < μ s) ∨ (∃ e, f s = some (Sum.inr e) ∧ Q e)) : ∃ e, lp f FU s = some e ∧ Q e := lp_inv I μ Q h FU s hs hm
/-- rows outside of S stay -/
def Eqx (S : Nat → Nat → Prop) (D D' : Dt) : Prop := ∀ k b, ¬ S k b → D' k b = D k b
theorem Eqx.rf {S : Nat → Nat → Prop} {D : Dt} : Eqx S D D := fun _ _ _ => rfl
theorem Eqx.tr {S : Nat → Nat → Prop} {D D1 D2 : Dt} (h1 : Eqx S D D1) (h2 : Eqx S D1 D2) : Eqx S D D2 := fun k b h => (h2 k b h).trans (h1 k b h)
theorem Eqx.mono {S T : Nat → Nat → Prop} {D D' : Dt} (h : Eqx S D D') (hST : ∀ k b, S k b → T k b) : Eqx T D D' := fun k b hn => h k b (fun q => hn (hST k b q))
theorem Eqx.upd {S : Nat → Nat → Prop} {D : Dt} {k b i : Nat} {x : Int32} (h : S k b) : Eqx S D (updD D k b i x) := fun k' b' hn => updD_other D i x (fun q => hn (q.1 ▸ q.2 ▸ h))
/-! sizes -/
def zz (l : Nat) : Nat := 2 ^ (16 - l)
theorem zz_pos (l : Nat) : 0 < zz l := Nat.pos_of_ne_zero (by simp [zz])
theorem zz_le (l : Nat) : zz l ≤ 65536 := by
  show 2 ^ (16 - l) ≤ 2 ^ 16
  exact Nat.pow_le_pow_right (by decide) (by omega)
theorem zz_16 : zz 16 = 1 := rfl
theorem zz_pred {l : Nat} (h : l < 16) : zz l = 2 * zz (l + 1) := by
  simp only [zz]
  rw [show 16 - l = (16 - (l + 1)) + 1 by omega, Nat.pow_succ, Nat.mul_comm]
theorem zz_mono {l m : Nat} (h : l ≤ m) : zz m ≤ zz l := Nat.pow_le_pow_right (by decide) (by omega)
theorem zz_dvd {l m : Nat} (h : l ≤ m) : zz m ∣ zz l := Nat.pow_dvd_pow 2 (by omega)
theorem zz_mod {l m a : Nat} (h : l ≤ m) (ha : a % zz l = 0) : a % zz m = 0 := Nat.mod_eq_zero_of_dvd (Nat.dvd_trans (zz_dvd h) (Nat.dvd_of_mod_eq_zero ha))
theorem sizeOf_eq {l : Nat} (h : l ≤ 16) (D : Dt) : f_X9_sizeOf (nI l) D = some (nI (zz l)) := by
  have : ∀ l, l ≤ 16 → (1 : Int32) <<< (((16 : Int32) - nI l) &&& 31) = nI (zz l) := by decide
  rw [f_X9_sizeOf, this l h]
theorem size_eq {l : Nat} (h : l ≤ 16) (D : Dt) : f_X10_size (nI l) D = some (nI (zz l)) := sizeOf_eq h D
