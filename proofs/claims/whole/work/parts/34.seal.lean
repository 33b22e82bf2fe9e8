/-! THE MODEL's seal -/
section SE
variable {d n : Nat} {M : Im} {h : Hm} {D : Dm} {A : Ab} {v : Int32} {Q : Int32 → Im → Hm → Dm → Prop}
theorem M_seal (hw : wf n A.1.1) (hI : IM M D A) (hp : A.2.1.1 ≤ 4) (hq : A.1.2 < 2 ^ 19) (hQ : ∀ M1 D1, IM M1 D1 (opSeal A v).2 → FrM M M1 → Q (opSeal A v).1 M1 h D1) : CI (d + 5) nX4_seal [.ref 73, .int v] M h D Q := by
  obtain ⟨⟨a, q⟩, B⟩ := A
  have ha : M 74 = a := hI.1.1
  subst ha
  have hw : wf n (M 74) := hw
  have hD0 : D 77 0 = dq q := hI.1.2
  refine ci_of rfl rfl (R_X4_seal_0 (t_isDrawer hw.a0 hw.n16 (fun k hk e => ?_) (fun c => ?_)))
  · have hk16 : k < 16 := by have := hw.n16; omega
    subst e
    unfold opSeal at hQ
    rw [if_pos (isD_of hw.a0 hw.n16 hk), kcl hk16] at hQ
    refine ⟨fun _ => t_isGame (fun hg => ⟨fun _ => t_d ⟨dvp hk16 (by decide), ?_⟩, fun z => absurd b1 z⟩) (fun hg => ⟨fun z => absurd rfl z, fun _ => ?_⟩), fun z => absurd b1 z⟩
    · rw [if_pos hg] at hQ
      rw [dcl hk16 (by decide)]
      refine ⟨fun c1 => t_d ⟨dvp hk16 (by decide), ?_⟩, fun c1 => ?_⟩
      · have h7 : fd (M 74) k 7 = 1 := (hw.zo.1 k hk16).2.resolve_left c1
        rw [if_pos h7] at hQ
        rw [dcl hk16 (by decide)]
        have hc : canS (M 74) k = ((fd (M 74) k 6 == 0) && (rchd (M 74) k && (ft (M 74) 11 2 == 1))) := by
          unfold canS; rw [h7]; rfl
        dsimp only at hQ
        rw [hc] at hQ
        refine ⟨fun c2 => ?_, fun c2 => ?_⟩
        · rw [show fd (M 74) k 6 = 1 from c2, if_neg (by simp)] at hQ; exact hQ M D hI (FrM.refl M)
        · have h6 : fd (M 74) k 6 = 0 := (hw.zo.1 k hk16).1.resolve_right c2
          rw [h6] at hQ
          refine t_isReached hw.out hw.n16 hk (b2i_if (fun e3 => ?_) (fun e3 => t_t (k := 11) ⟨tvp (by decide) (by decide), ?_⟩))
          · rw [e3, if_neg (by simp)] at hQ; exact hQ M D hI (FrM.refl M)
          · rw [tcl (by decide) (by decide)]
            refine ⟨fun c4 => ?_, fun c4 => ?_⟩
            · have h11 : ft (M 74) 11 2 = 1 := (hw.zo.2 11 (by decide)).resolve_left c4
              rw [e3, h11, if_pos (by decide)] at hQ
              refine tM_recA hI hp (fun M1 D1 i1 k1 k2 k3 => t_d ⟨dvp hk16 (by decide), ?_⟩)
              rw [dcl hk16 (by decide)]
              have hrow : up2 M1 74 (40 + 8 * k + 7) 0 74 = updF (M 74) k 7 0 := by rw [row_F, k1]
              have hw2 : wf n (updF (M 74) k 7 0) := wf_upF hw 7 0 hk hg (by decide) (by decide) (fun e => absurd e (by decide)) (fun e => absurd e (by decide)) (fun _ => Or.inl rfl)
              refine tM_step (q := q) (w := 12) dq_12 (by omega) (by omega) hq (k2.trans hD0) ?_
              rw [hrow]
              have hrow2 : up2 (up2 M1 74 (40 + 8 * k + 7) 0) 74 2 (updF (M 74) k 7 0 2 + 1) 74 = stp (updF (M 74) k 7 0) := by rw [row_H, hrow]; rfl
              refine t_sumOf (j := 7) (n := n) ?_ hw.n16 (by decide) ?_
              · rw [hrow2]; exact (wf_step hw2 _).a0
              · rw [hrow2]
                have := hQ (up2 (up2 M1 74 (40 + 8 * k + 7) 0) 74 2 (updF (M 74) k 7 0 2 + 1)) (up2 D1 77 0 (dq (q + 12))) (by
                  refine IM_now (r := (stp (updF (M 74) k 7 0), q + 12)) i1 hrow2 (fun c hc => ?_) (by simp [up2]) (fun i hi => ?_)
                  · rw [up2_ne _ _ _ hc, up2_ne _ _ _ hc]
                  · unfold up2; rw [if_neg (by omega)]) (fun c hc => by
                  rw [up2_ne _ _ _ (by omega), up2_ne _ _ _ (by omega)]; exact k3 c hc)
                rw [show fsum (fun i => fd (stp (updF (M 74) k 7 0)) i 7) n = (okSeal ((M 74, q), B) k).1 by
                  unfold okSeal; dsimp only; rw [hw.nOf]; exact fs_w (fun i _ => stp_fd)]
                exact this
            · rw [show ft (M 74) 11 2 = 0 from Classical.not_not.mp c4, if_neg (by simp)] at hQ; exact hQ M D hI (FrM.refl M)
      · rw [if_neg (by rw [show fd (M 74) k 7 = 0 from Classical.not_not.mp c1]; decide)] at hQ; exact hQ M D hI (FrM.refl M)
    · rw [if_neg hg] at hQ; exact hQ M D hI (FrM.refl M)
  · refine ⟨fun z => absurd rfl z, fun _ => ?_⟩
    unfold opSeal at hQ
    rw [if_neg (isD_no hw.a0 hw.n16 c)] at hQ; exact hQ M D hI (FrM.refl M)
end SE
