/-! THE CLASS's Plan, 1: what is gathered, and how it grows -/
abbrev Pn : Type := (Nat → Bool) × (Nat → Bool) × (Nat → Nat)
def PS (M : Im) (P : Pn) : Prop := bset (M 29 0) 16 P.1 ∧ bset (M 29 1) 12 P.2.1 ∧ ∀ k, k < 16 → M 30 k = nI (P.2.2 k)
def has (e : V) (P : Pn) (s : Nat) : Prop := (s < 16 ∧ P.1 s = true) ∨ (∃ j, s = 16 + j ∧ j < 12 ∧ P.2.1 j = true) ∨ ∃ k i, s = 28 + 3 * k + i ∧ k < 16 ∧ i < 3 ∧ lfN e k ≤ i ∧ i < P.2.2 k
def SND (n : Nat) (e : V) (d : Nat) (P : Pn) : Prop := (∀ k, k < 16 → P.1 k = true → k < n ∧ clo e k ∧ CLO n e d k) ∧ (∀ t, t < 12 → P.2.1 t = true → ft e t 2 = 0 ∧ CLO n e d (16 + t)) ∧ ∀ k, k < 16 → P.2.2 k ≤ bmN e k ∧ ∀ i, lfN e k ≤ i → i < P.2.2 k → CLO n e d (28 + 3 * k + i)
def LEP (P P1 : Pn) : Prop := (∀ k, k < 16 → P.1 k = true → P1.1 k = true) ∧ (∀ t, t < 12 → P.2.1 t = true → P1.2.1 t = true) ∧ ∀ k, k < 16 → P.2.2 k ≤ P1.2.2 k
def FrP (M M1 : Im) : Prop := ∀ c, c ≠ 29 → c ≠ 30 → M1 c = M c
theorem FrP.refl (M : Im) : FrP M M := fun _ _ _ => rfl
theorem FrP.tr {M M1 M2 : Im} (h1 : FrP M M1) (h2 : FrP M1 M2) : FrP M M2 := fun c a b => (h2 c a b).trans (h1 c a b)
theorem LEP.refl (P : Pn) : LEP P P := ⟨fun _ _ z => z, fun _ _ z => z, fun _ _ => Nat.le_refl _⟩
theorem LEP.tr {P P1 P2 : Pn} (h1 : LEP P P1) (h2 : LEP P1 P2) : LEP P P2 := ⟨fun k hk z => h2.1 k hk (h1.1 k hk z), fun k hk z => h2.2.1 k hk (h1.2.1 k hk z), fun k hk => Nat.le_trans (h1.2.2 k hk) (h2.2.2 k hk)⟩
theorem LEP.has {P P1 : Pn} {e : V} {s : Nat} (h : LEP P P1) (hs : has e P s) : has e P1 s := by
  rcases hs with ⟨a, b⟩ | ⟨j, a, b, c⟩ | ⟨k, i, a, b, c, d, f⟩
  · exact Or.inl ⟨a, h.1 s a b⟩
  · exact Or.inr (Or.inl ⟨j, a, b, h.2.1 j b c⟩)
  · exact Or.inr (Or.inr ⟨k, i, a, b, c, d, Nat.lt_of_lt_of_le f (h.2.2 k b)⟩)
theorem snd_has {n d s : Nat} {e : V} {P : Pn} (h : SND n e d P) (hs : has e P s) : CLO n e d s := by
  rcases hs with ⟨a, b⟩ | ⟨j, rfl, b, c⟩ | ⟨k, i, rfl, b, c, d, f⟩
  · exact (h.1 s a b).2.2
  · exact (h.2.1 j b c).2
  · exact (h.2.2 k b).2 i d f
theorem RS_p {M M1 : Im} {q : Nat} {a : V} (hR : RS M 1 a q) (hF : FrP M M1) : RS M1 1 a q := RS_fr hR (fun c _ _ => hF c (by omega) (by omega))
section PA
variable {d n q dr k t : Nat} {M : Im} {h : Hm} {D : Dm} {e : V} {P : Pn} {Q : Im → Hm → Dm → Prop}
theorem tP_addOpening (hR : RS M 1 e q) (hw : wf n e) (hk : k < n) (hP : PS M P) (hS : SND n e dr P) (hc : clo e k → CLO n e dr k) (hQ : ∀ M1 P1, PS M1 P1 → SND n e dr P1 → LEP P P1 → (clo e k → P1.1 k = true) → FrP M M1 → Q M1 h D) : CV (d + 2) nX1_addOpening [.ref 29, .ref 1, .int (nI k)] M h D Q := by
  have hk16 : k < 16 := by have := hw.n16; omega
  refine cv_of rfl rfl (R_X1_addOpening_0 (t_isOpen (Or.inl rfl) hR hk16 (b2i_ifn (fun c => ?_) (fun c => t_bit ?_))))
  · have h1 : fd e k 6 = 1 := by simpa using c
    exact hQ M P hP hS (LEP.refl P) (fun z => by unfold clo at z; rw [z] at h1; exact absurd h1 (by decide)) (FrP.refl M)
  · have hcl : clo e k := (hw.zo.1 k hk16).1.resolve_right (by simpa using c)
    refine hQ _ (fun j => if j = k then true else P.1 j, P.2) ⟨?_, ?_, fun j hj => ?_⟩ ⟨fun j hj hj2 => ?_, hS.2⟩ ⟨fun j hj z => ?_, fun _ _ z => z, fun _ _ => Nat.le_refl _⟩ (fun _ => if_pos rfl) (fun c h1 _ => up2_ne _ _ _ h1)
    · rw [show ∀ x : Int32, up2 M 29 0 x 29 0 = x from fun x => by simp [up2]]
      exact bs_put hP.1 hk16 (by decide)
    · rw [show ∀ x : Int32, up2 M 29 0 x 29 1 = M 29 1 from fun x => by simp [up2]]
      exact hP.2.1
    · rw [up2_ne _ _ _ (by decide)]; exact hP.2.2 j hj
    · by_cases z : j = k
      · rw [z]; exact ⟨hk, hcl, hc hcl⟩
      · have hj2 : (if j = k then true else P.1 j) = true := hj2
        rw [if_neg z] at hj2; exact hS.1 j hj hj2
    · show (if j = k then true else P.1 j) = true
      by_cases y : j = k
      · rw [if_pos y]
      · rw [if_neg y]; exact z
theorem tP_addTaking (hR : RS M 1 e q) (hw : wf n e) (ht : t < 12) (hP : PS M P) (hS : SND n e dr P) (hc : ft e t 2 = 0 → CLO n e dr (16 + t)) (hQ : ∀ M1 P1, PS M1 P1 → SND n e dr P1 → LEP P P1 → (ft e t 2 = 0 → P1.2.1 t = true) → FrP M M1 → Q M1 h D) : CV (d + 2) nX1_addTaking [.ref 29, .ref 1, .int (nI t)] M h D Q := by
  refine cv_of rfl rfl (R_X1_addTaking_0 (t_isInHand (Or.inl rfl) hR ht (b2i_ifn (fun c => ?_) (fun c => t_bit ?_))))
  · have h1 : ft e t 2 = 1 := by simpa using c
    exact hQ M P hP hS (LEP.refl P) (fun z => by rw [z] at h1; exact absurd h1 (by decide)) (FrP.refl M)
  · have hcl : ft e t 2 = 0 := (hw.zo.2 t ht).resolve_right (by simpa using c)
    refine hQ _ (P.1, fun j => if j = t then true else P.2.1 j, P.2.2) ⟨?_, ?_, fun j hj => ?_⟩ ⟨hS.1, fun j hj hj2 => ?_, hS.2.2⟩ ⟨fun _ _ z => z, fun j hj z => ?_, fun _ _ => Nat.le_refl _⟩ (fun _ => if_pos rfl) (fun c h1 _ => up2_ne _ _ _ h1)
    · rw [show ∀ x : Int32, up2 M 29 1 x 29 0 = M 29 0 from fun x => by simp [up2]]
      exact hP.1
    · rw [show ∀ x : Int32, up2 M 29 1 x 29 1 = x from fun x => by simp [up2]]
      exact bs_put hP.2.1 ht (by decide)
    · rw [up2_ne _ _ _ (by decide)]; exact hP.2.2 j hj
    · by_cases z : j = t
      · rw [z]; exact ⟨hcl, hc hcl⟩
      · have hj2 : (if j = t then true else P.2.1 j) = true := hj2
        rw [if_neg z] at hj2; exact hS.2.1 j hj hj2
    · show (if j = t then true else P.2.1 j) = true
      by_cases y : j = t
      · rw [if_pos y]
      · rw [if_neg y]; exact z
theorem lP_way {v2 : Int32} (hw : wf n e) : ∀ (m i : Nat) (x : Int32) (M : Im) (P : Pn), RS M 1 e q → i + m = 17 → (x = -5 ∨ ∃ j, j < n ∧ j < m ∧ x = nI j) → PS M P → SND n e dr P → (∀ y, up e m x y → clo e y → CLO n e dr y) → (∀ M1 P1, PS M1 P1 → SND n e dr P1 → LEP P P1 → (∀ y, up e m x y → clo e y → P1.1 y = true) → FrP M M1 → Q M1 h D) → EvV (d + 2) nX1_addWayInto 5 [(0, .ref 29), (1, .ref 1), (2, .int v2), (3, .int x), (4, .int (nI i))] [] M h D Q
  | 0, i, x, M, P, hR, hi, hx, hP, hS, hc, hQ => R_X1_addWayInto_5 ⟨fun _ => hQ M P hP hS (LEP.refl P) (fun y z => z.elim) (FrP.refl M), fun c => absurd ((nI_ltI (a := 16) (by omega) (by omega)).mpr (by omega)) c⟩
  | m + 1, i, x, M, P, hR, hi, hx, hP, hS, hc, hQ => by
    have hn := hw.n16
    refine R_X1_addWayInto_5 ⟨fun c => absurd ((nI_ltI (a := 16) (by omega) (by omega)).mp c) (by omega), fun _ => ?_⟩
    refine t_isThere' (Or.inl rfl) (hR.1.trans hw.a0) hn (hx.imp id (fun ⟨j, z, _, e⟩ => ⟨j, z, e⟩)) (fun c => ⟨fun z => absurd z (by decide), fun _ => ?_⟩) (fun c => ⟨fun _ => ?_, fun z => absurd rfl z⟩)
    · obtain ⟨j, hj, hjm, rfl⟩ := hx.resolve_left c
      have hj16 : j < 16 := by omega
      unfold up at hc hQ
      rw [kcl hj16] at hc hQ
      refine tP_addOpening hR hw hj hP hS (fun z => hc j ⟨c, Or.inl rfl⟩ z) (fun M1 P1 p1 s1 l1 o1 f1 => ⟨kvp hj16 (by decide), ?_⟩)
      have r1 := RS_p hR f1
      rw [kcl hj16, (r1.2.2.2.2.2.2.2.1 j hj16).1, nI_1]
      refine lP_way hw m (i + 1) _ M1 P1 r1 (by omega) ((hw.out j hj).imp id (fun ⟨i2, z, ez⟩ => ⟨i2, by omega, by omega, ez⟩)) p1 s1 (fun y hy z => hc y ⟨c, Or.inr hy⟩ z) (fun M2 P2 p2 s2 l2 o2 f2 => hQ M2 P2 p2 s2 (l1.tr l2) (fun y hy z => ?_) (f1.tr f2))
      rcases hy.2 with y1 | y1
      · rw [← y1] at z ⊢; exact l2.1 j hj16 (o1 z)
      · exact o2 y y1 z
    · exact hQ M P hP hS (LEP.refl P) (fun y z => absurd c z.1) (FrP.refl M)
theorem way_up (hw : wf n e) (hk : k < n) {y : Nat} : up e 17 (nI k) y ↔ (k = y ∨ UP e k y) := by
  have hn := hw.n16
  show up e (16 + 1) (nI k) y ↔ _
  unfold up UP
  rw [kcl (by omega)]
  exact ⟨fun z => z.2, fun z => ⟨m5_ne k (by omega), z⟩⟩
theorem tP_addWayInto (hR : RS M 1 e q) (hw : wf n e) (hk : k < n) (hP : PS M P) (hS : SND n e dr P) (hc : ∀ t, way e k t → CLO n e dr t) (hQ : ∀ M1 P1, PS M1 P1 → SND n e dr P1 → LEP P P1 → (∀ t, way e k t → P1.1 t = true) → FrP M M1 → Q M1 h D) : CV (d + 3) nX1_addWayInto [.ref 29, .ref 1, .int (nI k)] M h D Q := by
  have hn := hw.n16
  refine cv_of rfl rfl (R_X1_addWayInto_0 (lP_way hw 17 0 (nI k) M P hR rfl (Or.inr ⟨k, hk, by omega, rfl⟩) hP hS (fun y hy z => hc y ⟨((way_up hw hk).mp hy).elim (fun a => Or.inr a.symm) Or.inl, z⟩) (fun M1 P1 p1 s1 l1 o1 f1 => hQ M1 P1 p1 s1 l1 (fun t ht => o1 t ((way_up hw hk).mpr (ht.1.elim Or.inr (fun a => Or.inl a.symm))) ht.2) f1)))
/-- what an opening needs -/
theorem tP_needsO (hR : RS M 1 e q) (hw : wf n e) (hk : k < n) (hP : PS M P) (hS : SND n e dr P) (hcl : clo e k) (hck : CLO n e dr k) (hb : ¬ BAD n e k) (hQ : ∀ M1 P1, PS M1 P1 → SND n e dr P1 → LEP P P1 → (∀ t, t < 76 → ND n e k t → has e P1 t) → FrP M M1 → Q M1 h D) : CV (d + 4) nX1_addNeedsOfOpening [.ref 29, .ref 1, .int (nI k)] M h D Q := by
  have hn := hw.n16
  have hk16 : k < 16 := by omega
  have k27 : ∀ (M1 : Im) (P1 : Pn), PS M1 P1 → SND n e dr P1 → LEP P P1 → FrP M M1 → (∀ t, way e k t → P1.1 t = true) → (fd e k 1 = 1 → ft e (byN e k) 2 = 0 → P1.2.1 (byN e k) = true) → EvV (d + 3) nX1_addNeedsOfOpening 27 [(0, .ref 29), (1, .ref 1), (2, .int (nI k))] [] M1 h D Q := by
    intro M1 P1 p1 s1 l1 f1 w1 y1
    have r1 := RS_p hR f1
    obtain ⟨-, e1, e2, -⟩ := r1.2.2.2.2.2.2.2.1 k hk16
    have fin : ∀ (M2 : Im) (P2 : Pn), PS M2 P2 → SND n e dr P2 → LEP P1 P2 → FrP M M2 → (fd e k 1 = 2 → clo e (byN e k) → P2.1 (byN e k) = true) → Q M2 h D := by
      intro M2 P2 p2 s2 l2 f2 y2
      refine hQ M2 P2 p2 s2 (l1.tr l2) (fun t ht hnd => ?_) f2
      rcases hnd with hnd | ⟨j, hj, -⟩ | ⟨k2, i, hj, -⟩
      · obtain ⟨-, -, hnd⟩ := hnd
        rcases hnd with ⟨u1, u2⟩ | ⟨u1, u2, rfl⟩ | ⟨u1, u2, u3, rfl⟩
        · have := UP_lt hw.out hn hk u1
          exact Or.inl ⟨by omega, l2.1 t (by omega) (w1 t ⟨Or.inl u1, u2⟩)⟩
        · obtain ⟨j, hj, ej⟩ := (hw.by' k hk).1 u1
          have hby : byN e k = j := by unfold byN; rw [ej, nI_clamp (by omega)]
          exact Or.inr (Or.inl ⟨byN e k, rfl, by omega, l2.2.1 _ (by omega) (y1 u1 u2)⟩)
        · exact Or.inl ⟨by omega, y2 u1 u3⟩
      · omega
      · omega
    refine R_X1_addNeedsOfOpening_27 ⟨kvp hk16 (by decide), ?_⟩
    rw [kcl hk16, show M1 3 k = fd e k 1 from e1, show M1 4 k = fd e k 2 from e2]
    refine nn_if (fun c => fin M1 P1 p1 s1 (LEP.refl P1) f1 (fun z => absurd z c)) (fun c => ⟨kvp hk16 (by decide), ?_⟩)
    obtain ⟨j, hj, ej⟩ := (hw.by' k hk).2 c
    have hby : byN e k = j := by unfold byN; rw [ej, nI_clamp (by omega)]
    have hjn : j < n := by
      rcases Nat.lt_or_ge j n with z | z
      · exact z
      · exact absurd ⟨hk, hcl, c, by rw [hby]; exact z⟩ hb
    rw [ej]
    refine tP_addOpening r1 hw hjn p1 s1 (fun z => ?_) (fun M2 P2 p2 s2 l2 o2 f2 => fin M2 P2 p2 s2 l2 (f1.tr f2) (fun _ z => by rw [hby] at z ⊢; exact o2 z))
    exact clo_step (by omega) (by omega) hck (Or.inl ⟨hk, hcl, Or.inr (Or.inr ⟨c, by omega, by rw [hby]; exact z, hby.symm⟩)⟩)
  refine cv_of rfl rfl (R_X1_addNeedsOfOpening_0 (tP_addWayInto hR hw hk hP hS (fun t ht => ?_) (fun M1 P1 p1 s1 l1 o1 f1 => ⟨kvp hk16 (by decide), ?_⟩)))
  · rcases ht.1 with z | z
    · have := UP_lt hw.out hn hk z
      exact clo_step (by omega) (by omega) hck (Or.inl ⟨hk, hcl, Or.inl ⟨z, ht.2⟩⟩)
    · rw [z]; exact hck
  · have r1 := RS_p hR f1
    obtain ⟨-, e1, e2, -⟩ := r1.2.2.2.2.2.2.2.1 k hk16
    rw [kcl hk16, show M1 3 k = fd e k 1 from e1, show M1 4 k = fd e k 2 from e2]
    refine nn_if (fun c => k27 M1 P1 p1 s1 l1 f1 o1 (fun z => absurd z c)) (fun c => ⟨kvp hk16 (by decide), ?_⟩)
    obtain ⟨j, hj, ej⟩ := (hw.by' k hk).1 c
    have hby : byN e k = j := by unfold byN; rw [ej, nI_clamp (by omega)]
    rw [ej]
    refine tP_addTaking r1 hw (show j < 12 by omega) p1 s1 (fun z => ?_) (fun M2 P2 p2 s2 l2 o2 f2 => k27 M2 P2 p2 s2 (l1.tr l2) (f1.tr f2) (fun t ht => ?_) (fun _ z => by rw [hby] at z ⊢; exact o2 z))
    · exact clo_step (by omega) (by omega) hck (Or.inl ⟨hk, hcl, Or.inr (Or.inl ⟨c, by rw [hby]; exact z, by rw [hby]⟩)⟩)
    · have := way_lt hw.out hn hk ht
      exact l2.1 t (by omega) (o1 t ht)
/-- what a taking needs -/
theorem tP_needsT (hR : RS M 1 e q) (hw : wf n e) (ht : t < 12) (hP : PS M P) (hS : SND n e dr P) (hcl : ft e t 2 = 0) (hck : CLO n e dr (16 + t)) (hQ : ∀ M1 P1, PS M1 P1 → SND n e dr P1 → LEP P P1 → (∀ u, u < 76 → ND n e (16 + t) u → has e P1 u) → FrP M M1 → Q M1 h D) : CV (d + 4) nX1_addNeedsOfTaking [.ref 29, .ref 1, .int (nI t)] M h D Q := by
  have hn := hw.n16
  obtain ⟨e7, e8⟩ := hR.2.2.2.2.2.2.2.2 t ht
  refine cv_of rfl rfl (R_X1_addNeedsOfTaking_0 ⟨kvp ht (by decide), ?_⟩)
  rw [nI_clamp (by omega), show M 8 t = ft e t 0 from e7]
  refine t_isThere' (Or.inl rfl) (hR.1.trans hw.a0) hn (hw.th t ht) (fun c => ⟨fun z => absurd z (by decide), fun _ => ?_⟩) (fun c => ⟨fun _ => ?_, fun z => absurd rfl z⟩)
  · obtain ⟨p1, p2, p3, p4, p5⟩ := wf_dp hw ht c
    have hp16 : plN e t < 16 := by omega
    have hnd : ∀ u, (way e (plN e t) u ∨ ∃ i, lfN e (plN e t) ≤ i ∧ i < dpN e t ∧ u = 28 + 3 * plN e t + i) → ND n e (16 + t) u := fun u hu => Or.inr (Or.inl ⟨t, rfl, ht, c, hcl, hu⟩)
    rw [p2]
    refine tP_addWayInto hR hw p1 hP hS (fun u hu => ?_) (fun M1 P1 q1 s1 l1 o1 f1 => ⟨kvp hp16 (by decide), kvp ht (by decide), by omega, kvp hp16 (by decide), fun M2 e2 => ?_⟩)
    · have := way_lt hw.out hn p1 hu
      exact clo_step (by omega) (by omega) hck (hnd u (Or.inl hu))
    · have r1 := RS_p hR f1
      rw [kcl hp16, show M1 9 t = ft e t 1 from (r1.2.2.2.2.2.2.2.2 t ht).2, q1.2.2 _ hp16, p3] at e2
      obtain ⟨b, hb, b1', b2⟩ := wf_bm hw hp16
      have hx : (if nI (P1.2.2 (plN e t)) < nI (dpN e t) then nI (dpN e t) else nI (P1.2.2 (plN e t))) = nI (max (P1.2.2 (plN e t)) (dpN e t)) := by
        have := (s1.2.2 _ hp16).1
        by_cases z : P1.2.2 (plN e t) < dpN e t
        · rw [if_pos ((nI_ltI (by omega) (by omega)).mpr z), Nat.max_eq_right (by omega)]
        · rw [if_neg (fun y => z ((nI_ltI (by omega) (by omega)).mp y)), Nat.max_eq_left (by omega)]
      rw [hx] at e2
      refine hQ M2 (P1.1, P1.2.1, fun j => if j = plN e t then max (P1.2.2 (plN e t)) (dpN e t) else P1.2.2 j) ⟨?_, ?_, fun j hj => ?_⟩ ⟨s1.1, s1.2.1, fun j hj => ?_⟩ (l1.tr ⟨fun _ _ z => z, fun _ _ z => z, fun j hj => ?_⟩) (fun u hu hnd2 => ?_) (fun c h1 h2 => by rw [e2, up2_ne _ _ _ h2]; exact f1 c h1 h2)
      · rw [e2, up2_ne _ _ _ (by decide)]; exact q1.1
      · rw [e2, up2_ne _ _ _ (by decide)]; exact q1.2.1
      · show M2 30 j = nI (if j = plN e t then max (P1.2.2 (plN e t)) (dpN e t) else P1.2.2 j)
        rw [e2]
        by_cases z : j = plN e t
        · rw [if_pos z, z]; simp [up2]
        · rw [if_neg z]; simp only [up2]; rw [if_neg (fun y => z y.2)]; exact q1.2.2 j hj
      · show (if j = plN e t then max (P1.2.2 (plN e t)) (dpN e t) else P1.2.2 j) ≤ bmN e j ∧ ∀ i, lfN e j ≤ i → i < (if j = plN e t then max (P1.2.2 (plN e t)) (dpN e t) else P1.2.2 j) → CLO n e dr (28 + 3 * j + i)
        by_cases z : j = plN e t
        · rw [if_pos z, z]
          have h1 := s1.2.2 _ hp16
          refine ⟨by omega, fun i hi hi2 => ?_⟩
          rcases Nat.lt_or_ge i (P1.2.2 (plN e t)) with y | y
          · exact h1.2 i hi y
          · exact clo_step (by omega) (by omega) hck (hnd _ (Or.inr ⟨i, hi, by omega, rfl⟩))
        · rw [if_neg z]; exact s1.2.2 j hj
      · show P1.2.2 j ≤ (if j = plN e t then max (P1.2.2 (plN e t)) (dpN e t) else P1.2.2 j)
        by_cases z : j = plN e t
        · rw [if_pos z, z]; omega
        · rw [if_neg z]; omega
      · rcases hnd2 with hnd2 | ⟨j, hj, hnd2⟩ | ⟨k2, i, hj, hnd2⟩
        · have := hnd2.1; omega
        · obtain rfl : j = t := by omega
          rcases hnd2.2.2.2 with z | ⟨i, z1, z2, rfl⟩
          · have := way_lt hw.out hn p1 z
            exact Or.inl ⟨by omega, o1 u z⟩
          · refine Or.inr (Or.inr ⟨plN e j, i, rfl, hp16, by omega, z1, ?_⟩)
            show i < if plN e j = plN e j then max (P1.2.2 (plN e j)) (dpN e j) else _
            rw [if_pos rfl]; omega
        · omega
  · refine hQ M P hP hS (LEP.refl P) (fun u hu hnd => ?_) (FrP.refl M)
    rcases hnd with hnd | ⟨j, hj, hnd⟩ | ⟨k2, i, hj, hnd⟩
    · have := hnd.1; omega
    · obtain rfl : j = t := by omega
      exact absurd c hnd.2.1
    · omega
end PA
