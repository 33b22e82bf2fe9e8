/-! THE CLASS's State, 2: writes -/
def FrS (S : Nat) (M M1 : Im) : Prop := ∀ c, (c < S ∨ S + 8 < c) → M1 c = M c
theorem FrS.refl (S : Nat) (M : Im) : FrS S M M := fun _ _ => rfl
theorem FrS.tr {S : Nat} {M M1 M2 : Im} (h1 : FrS S M M1) (h2 : FrS S M1 M2) : FrS S M M2 := fun c hc => (h2 c hc).trans (h1 c hc)
theorem FrS.up {S : Nat} {M M1 : Im} (hF : FrS S M M1) (j k : Nat) (x : Int32) (hj : j ≤ 8) : FrS S M (up2 M1 (S + j) k x) := fun c hc => by
  rw [up2_ne _ _ _ (by omega)]; exact hF c hc
theorem FrS.up0 {S : Nat} {M M1 : Im} (hF : FrS S M M1) (k : Nat) (x : Int32) : FrS S M (up2 M1 S k x) := hF.up 0 k x (by decide)
theorem cp2_ne {α : Type} (M : Nat → Nat → α) {a : Nat} (c0 sp c1 dp n : Nat) (h : a ≠ c1) : cp2 M c0 sp c1 dp n a = M a := by
  funext j; simp [cp2, h]
theorem cp2_at {α : Type} (M : Nat → Nat → α) (c0 c1 n k : Nat) (h : k < n) : cp2 M c0 0 c1 0 n c1 k = M c0 k := by simp [cp2, h]
theorem FrS.cp {S : Nat} {M M1 : Im} (hF : FrS S M M1) (j c0 n : Nat) (hj : j ≤ 8) : FrS S M (cp2 M1 c0 0 (S + j) 0 n) := fun c hc => by
  rw [cp2_ne _ _ _ _ _ _ (by omega)]; exact hF c hc
theorem RS_fr {M M1 : Im} {S q : Nat} {a : V} (hR : RS M S a q) (h : ∀ c, S ≤ c → c ≤ S + 8 → M1 c = M c) : RS M1 S a q := by
  unfold RS
  rw [h S (by omega) (by omega), h (S + 1) (by omega) (by omega), h (S + 2) (by omega) (by omega), h (S + 3) (by omega) (by omega), h (S + 4) (by omega) (by omega), h (S + 5) (by omega) (by omega), h (S + 6) (by omega) (by omega), h (S + 7) (by omega) (by omega), h (S + 8) (by omega) (by omega)]
  exact hR
theorem RS_frS {M M1 : Im} {S T q : Nat} {a : V} (hR : RS M T a q) (hST : S + 9 ≤ T ∨ T + 9 ≤ S) (hF : FrS S M M1) : RS M1 T a q := RS_fr hR (fun c _ _ => hF c (by omega))
theorem RS_copy {M M1 : Im} {S T q : Nat} {a : V} (hR : RS M T a q) (h0 : ∀ j, j < 7 → M1 S j = M T j) (h1 : ∀ j k, j < 6 → k < 16 → M1 (S + 1 + j) k = M (T + 1 + j) k) (h2 : ∀ j t, j < 2 → t < 12 → M1 (S + 7 + j) t = M (T + 7 + j) t) : RS M1 S a q := by
  unfold RS
  rw [h0 0 (by decide), h0 1 (by decide), h0 2 (by decide), h0 3 (by decide), h0 4 (by decide), h0 5 (by decide), h0 6 (by decide)]
  obtain ⟨g0, g1, g2, g3, g4, g5, g6, g7, g8⟩ := hR
  refine ⟨g0, g1, g2, g3, g4, g5, g6, fun k hk => ?_, fun t ht => ?_⟩
  · rw [h1 0 k (by decide) hk, h1 1 k (by decide) hk, h1 2 k (by decide) hk, h1 3 k (by decide) hk, h1 4 k (by decide) hk, h1 5 k (by decide) hk]; exact g7 k hk
  · rw [h2 0 t (by decide) ht, h2 1 t (by decide) ht]; exact g8 t ht
section S2
variable {d n S T q : Nat} {M : Im} {h : Hm} {D : Dm} {a : V} {Q : Im → Hm → Dm → Prop}
theorem tS_copyFrom (hS : St S) (hT : St T) (hST : S + 9 ≤ T ∨ T + 9 ≤ S) (hR : RS M T a q) (hg : a 1 = 0 ∨ a 1 = 1) (hQ : ∀ M1, RS M1 S a q → FrS S M M1 → Q M1 h D) : CV (d + 2) nX2_copyFrom [.ref S, .ref T] M h D Q := by
  refine cv_of rfl rfl (R_X2_copyFrom_0 hS hT ?_)
  have e0 : ∀ c i x, c ≠ S → up2 M c i x S = M S := fun c i x hc => up2_ne _ _ _ (Ne.symm hc)
  refine ⟨?_, fun M1 e1 M2 e2 => ⟨by omega, by omega, by omega, fun M3 e3 => ⟨by omega, by omega, by omega, by omega, fun M4 e4 => ⟨by omega, hQ _ ?_ ?_⟩⟩⟩⟩
  · rw [up2_ne _ _ _ (by omega), hR.2.1]; exact hg
  · have k1 : M1 T = M T := by rw [e1, up2_ne _ _ _ (by omega), up2_ne _ _ _ (by omega), up2_ne _ _ _ (by omega)]
    have k2 : M2 T = M T := by rw [e2, up2_ne _ _ _ (by omega), up2_ne _ _ _ (by omega), up2_ne _ _ _ (by omega), k1]
    refine RS_copy hR (fun j hj => ?_) (fun j k hj hk => ?_) (fun j t hj ht => ?_)
    · rw [cp2_ne _ _ _ _ _ _ (by omega), e4, cp2_ne _ _ _ _ _ _ (by omega), cp2_ne _ _ _ _ _ _ (by omega), cp2_ne _ _ _ _ _ _ (by omega), cp2_ne _ _ _ _ _ _ (by omega), e3, cp2_ne _ _ _ _ _ _ (by omega), cp2_ne _ _ _ _ _ _ (by omega), cp2_ne _ _ _ _ _ _ (by omega)]
      rw [e2] at k2 ⊢
      rw [e1] at k1 ⊢
      have hne : ¬ T = S := by omega
      rcases (by omega : j = 0 ∨ j = 1 ∨ j = 2 ∨ j = 3 ∨ j = 4 ∨ j = 5 ∨ j = 6) with rfl | rfl | rfl | rfl | rfl | rfl | rfl <;> simp [up2, hne]
    · have g : M3 (T + 4) = M (T + 4) ∧ M3 (T + 5) = M (T + 5) ∧ M3 (T + 6) = M (T + 6) ∧ M2 (T + 1) = M (T + 1) ∧ M2 (T + 2) = M (T + 2) ∧ M2 (T + 3) = M (T + 3) := by
        subst e3 e2 e1
        refine ⟨?_, ?_, ?_, ?_, ?_, ?_⟩
        · rw [cp2_ne _ _ _ _ _ _ (by omega), cp2_ne _ _ _ _ _ _ (by omega), cp2_ne _ _ _ _ _ _ (by omega)]; iterate 7 rw [up2_ne _ _ _ (by omega)]
        · rw [cp2_ne _ _ _ _ _ _ (by omega), cp2_ne _ _ _ _ _ _ (by omega), cp2_ne _ _ _ _ _ _ (by omega)]; iterate 7 rw [up2_ne _ _ _ (by omega)]
        · rw [cp2_ne _ _ _ _ _ _ (by omega), cp2_ne _ _ _ _ _ _ (by omega), cp2_ne _ _ _ _ _ _ (by omega)]; iterate 7 rw [up2_ne _ _ _ (by omega)]
        · iterate 6 rw [up2_ne _ _ _ (by omega)]
        · iterate 6 rw [up2_ne _ _ _ (by omega)]
        · iterate 6 rw [up2_ne _ _ _ (by omega)]
      obtain ⟨g4, g5, g6, g1, g2, g3⟩ := g
      rw [cp2_ne _ _ _ _ _ _ (by omega), e4, cp2_ne _ _ _ _ _ _ (by omega)]
      rcases (by omega : j = 0 ∨ j = 1 ∨ j = 2 ∨ j = 3 ∨ j = 4 ∨ j = 5) with rfl | rfl | rfl | rfl | rfl | rfl
      · rw [cp2_ne _ _ _ _ _ _ (by omega), cp2_ne _ _ _ _ _ _ (by omega), cp2_ne _ _ _ _ _ _ (by omega), e3, cp2_ne _ _ _ _ _ _ (by omega), cp2_ne _ _ _ _ _ _ (by omega), cp2_at _ _ _ _ _ hk, up2_ne _ _ _ (by omega), g1]
      · rw [cp2_ne _ _ _ _ _ _ (by omega), cp2_ne _ _ _ _ _ _ (by omega), cp2_ne _ _ _ _ _ _ (by omega), e3, cp2_ne _ _ _ _ _ _ (by omega), cp2_at _ _ _ _ _ hk, cp2_ne _ _ _ _ _ _ (by omega), up2_ne _ _ _ (by omega), g2]
      · rw [cp2_ne _ _ _ _ _ _ (by omega), cp2_ne _ _ _ _ _ _ (by omega), cp2_ne _ _ _ _ _ _ (by omega), e3, cp2_at _ _ _ _ _ hk, cp2_ne _ _ _ _ _ _ (by omega), cp2_ne _ _ _ _ _ _ (by omega), up2_ne _ _ _ (by omega), g3]
      · rw [cp2_ne _ _ _ _ _ _ (by omega), cp2_ne _ _ _ _ _ _ (by omega), cp2_at _ _ _ _ _ hk, g4]
      · rw [cp2_ne _ _ _ _ _ _ (by omega), cp2_at _ _ _ _ _ hk, cp2_ne _ _ _ _ _ _ (by omega), g5]
      · rw [cp2_at _ _ _ _ _ hk, cp2_ne _ _ _ _ _ _ (by omega), cp2_ne _ _ _ _ _ _ (by omega), g6]
    · have g : M3 (T + 7) = M (T + 7) ∧ M3 (T + 8) = M (T + 8) := by
        subst e3 e2 e1
        refine ⟨?_, ?_⟩
        · rw [cp2_ne _ _ _ _ _ _ (by omega), cp2_ne _ _ _ _ _ _ (by omega), cp2_ne _ _ _ _ _ _ (by omega)]; iterate 7 rw [up2_ne _ _ _ (by omega)]
        · rw [cp2_ne _ _ _ _ _ _ (by omega), cp2_ne _ _ _ _ _ _ (by omega), cp2_ne _ _ _ _ _ _ (by omega)]; iterate 7 rw [up2_ne _ _ _ (by omega)]
      obtain ⟨g7, g8⟩ := g
      rcases (by omega : j = 0 ∨ j = 1) with rfl | rfl
      · rw [cp2_ne _ _ _ _ _ _ (by omega), e4, cp2_at _ _ _ _ _ ht, cp2_ne _ _ _ _ _ _ (by omega), cp2_ne _ _ _ _ _ _ (by omega), cp2_ne _ _ _ _ _ _ (by omega), g7]
      · rw [cp2_at _ _ _ _ _ ht, e4, cp2_ne _ _ _ _ _ _ (by omega), cp2_ne _ _ _ _ _ _ (by omega), cp2_ne _ _ _ _ _ _ (by omega), cp2_ne _ _ _ _ _ _ (by omega), g8]
  · subst e4 e3 e2 e1
    exact (((((((((((((((FrS.refl S M).up0 _ _).up0 _ _).up0 _ _).up0 _ _).up0 _ _).up0 _ _).up0 _ _).cp 1 _ _ (by decide)).cp 2 _ _ (by decide)).cp 3 _ _ (by decide)).cp 4 _ _ (by decide)).cp 5 _ _ (by decide)).cp 6 _ _ (by decide)).cp 7 _ _ (by decide)).cp 8 _ _ (by decide)
theorem tS_addStep {x : Int32} {w : Nat} (hS : St S) (hR : RS M S a q) (hx : x = nI w) (hQ : ∀ M1, RS M1 S (updH a 2 (a 2 + 1)) (q + w) → FrS S M M1 → Q M1 h D) : CV (d + 1) nX2_addStep [.ref S, .int x] M h D Q := by
  refine cv_of rfl rfl (R_X2_addStep_0 hS (hQ _ ?_ (((FrS.refl S M).up0 _ _).up0 _ _)))
  have h1 := RS_H (x := M S 2 + 1) 2 (by decide) hR
  rw [hR.2.2.1] at h1 ⊢
  refine RS_q ?_ h1
  rw [hx, show up2 M S 2 (a 2 + 1) S 3 = M S 3 by simp [up2], hR.2.2.2.1, nI_add]
end S2
