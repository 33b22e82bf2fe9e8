/-! the law's builds: two to nine drawers, things laid in them -/
section BU
variable {Lb e c m k n t hd b cc : Nat} {xs : Nat → Int32} {a : V} {A : Ab} {Q : Int32 → Ab → Prop}
/-- what is so while drawers are built -/
def BI (m k : Nat) (a : V) : Prop := wf k a ∧ a 1 = 0 ∧ (∀ t, t < 12 → ft a t 0 = -5) ∧ ∀ i, i < k → fd a i 1 = 2 → byN a i < m
abbrev LU (m : Nat) (k : Int32) : Lc := [(0, .ref 0), (1, .retAddr 0), (2, .int (nI m)), (3, .int 1), (4, .int k)]
theorem n_lt4 : ∀ h, h < 4 → (nI h = 0 → h = 0) ∧ (nI h = 1 → h = 1) ∧ (nI h = 2 → h = 2) ∧ (nI h = 3 → h = 3) := by decide
theorem op_build {o : Int32} {st : Nat} (h : wf k A.1.1) (hg : A.1.1 1 = 0) (hk : k < 16) (ho : o = -5 ∨ ∃ j, j < k ∧ o = nI j) (hh : hd < 4) (h1 : hd = 1 → b < 10) (h2 : hd = 2 → b < 16) (hs : st < 10) : opBuild A o (nI hd) (nI b) (nI st) = (nI k, ((nwD A.1.1 k o (nI hd) (nI b) (nI st) 0, A.1.2), (recA A).2)) := by
  unfold opBuild
  have c1 : o = -5 ∨ isD A.1.1 o := ho.imp id (fun ⟨j, hj, z⟩ => by rw [z]; exact isD_of h.a0 h.n16 hj)
  have c2 : okHold (nI hd) (nI b) ∧ 0 ≤ nI st ∧ nI st ≤ 9 := by
    refine ⟨?_, nI_pos' (by omega), (nI_leI (b := 9) (by omega) (by decide)).mpr (by omega)⟩
    rcases (by omega : hd = 0 ∨ hd = 1 ∨ hd = 2 ∨ hd = 3) with rfl | rfl | rfl | rfl
    · exact Or.inl rfl
    · have := h1 rfl
      exact Or.inr (Or.inr (Or.inl ⟨rfl, nI_pos' (by omega), (nI_leI (b := 9) (by omega) (by decide)).mpr (by omega)⟩))
    · have := h2 rfl
      exact Or.inr (Or.inr (Or.inr ⟨rfl, nI_pos' (by omega), (nI_leI (b := 15) (by omega) (by decide)).mpr (by omega)⟩))
    · exact Or.inr (Or.inl rfl)
  rw [if_pos c1, if_pos c2, h.nOf, if_pos hk, if_neg (by rw [hg]; decide)]
theorem BI_new {o : Int32} {st : Nat} (h : BI m k a) (hk : k < m) (hm : m ≤ 9) (ho : o = -5 ∨ ∃ j, j < k ∧ o = nI j) (hh : hd < 4) (h1 : hd = 1 → b < 10) (h2 : hd = 2 → b < m) (hs : st < 10) : BI m (k + 1) (nwD a k o (nI hd) (nI b) (nI st) 0) := by
  obtain ⟨hw, hg, ht, hb⟩ := h
  obtain ⟨w0, w1, w2, w3⟩ := n_lt4 hd hh
  have hwf : wf (k + 1) (nwD a k o (nI hd) (nI b) (nI st) (nI 0)) := wf_nwD hw (by omega) ho (fun z => ⟨b, h1 (w1 z), rfl⟩) (fun z => ⟨b, by have := h2 (w2 z); omega, rfl⟩) hs rfl (by decide)
  refine ⟨hwf, (nwD_hd (by decide) (by decide)).trans hg, fun t ht2 => (nwD_ft ht2 (by decide)).trans (ht t ht2), fun i hi z => ?_⟩
  by_cases e : i = k
  · subst e
    rw [nwD_1] at z
    unfold byN
    rw [nwD_2, if_pos (Or.inr z), nI_clamp (by have := h2 (w2 z); omega)]
    exact h2 (w2 z)
  · rw [nwD_ne e (by decide)] at z
    have : byN (nwD a k o (nI hd) (nI b) (nI st) 0) i = byN a i := by unfold byN; rw [nwD_ne e (by decide)]
    rw [this]
    exact hb i (by omega) z
theorem op_setB {r : Nat} (h : wf n A.1.1) (hg : A.1.1 1 = 0) (hk : k < n) (hr : r < 4) (h0 : r ≠ 0) (h4 : fd A.1.1 k 4 = 0) : opSetB A (nI k) (nI r) = (0, ((cbF A.1.1 k (nI r), A.1.2), (recA A).2)) := by
  have hn := h.n16
  unfold opSetB
  rw [if_pos (isD_of h.a0 hn hk), if_pos ⟨nI_pos' (by omega), (nI_leI (b := 3) (by omega) (by decide)).mpr (by omega)⟩, if_neg (by rw [hg]; decide), kcl (by omega), h4, if_neg (fun z => h0 ((n_lt4 r hr).1 z.symm))]
theorem BI_set {r : Nat} (h : BI m n a) (hk : k < n) (hr : r < 4) : BI m n (cbF a k (nI r)) := by
  obtain ⟨hw, hg, ht, hb⟩ := h
  refine ⟨cbF_wf hw hk (by omega) hg, (cb_hd 12 (by decide)).trans hg, fun t ht2 => ?_, fun i hi z => ?_⟩
  · unfold cbF; rw [cb_ft 12 (by decide) ht2 (by decide), if_neg (fun z => absurd z.1 (by decide))]; exact ht t ht2
  · unfold cbF at z ⊢
    rw [cb_fd 12 (by decide) (by decide), if_neg (by omega)] at z
    have : byN (cb a k (nI r) 12) i = byN a i := by unfold byN; rw [cb_fd 12 (by decide) (by decide), if_neg (by omega)]
    rw [this]; exact hb i hi z
theorem U_100 {o v3 v6 v7 : Int32} (hLb : Lb ≤ 260) (hc : c + 2 ≤ 400) (hw : wfA c A) (hB : BI m k A.1.1) (hk : k < m) (hm : m ≤ 9) (ho : o = -5 ∨ ∃ j, j < k ∧ o = nI j) (hh : hd < 4) (h1 : hd = 1 → b < 10) (h2 : hd = 2 → b < m) (hcc : cc < 2 ^ 31) (next : ∀ c1 A1, c1 ≤ c + 2 → wfA c1 A1 → BI m (k + 1) A1.1.1 → EA (some (Lb, xs)) (e + 8) nL_builds 16 (LU m (nI (k + 1))) [] A1 Q) : EA (some (Lb, xs)) (e + 8) nL_builds 100 [(0, .ref 0), (1, .retAddr 0), (2, .int (nI m)), (3, .int v3), (4, .int (nI k)), (5, .int (nI cc)), (6, .int v6), (7, .int v7)] [.int (nI b), .int (nI hd), .int o, .ref 0] A Q := by
  have d12 : cc / 2 ^ 12 < 2 ^ 31 := Nat.lt_of_le_of_lt (Nat.div_le_self _ _) hcc
  have d16 : cc / 2 ^ 16 < 2 ^ 31 := Nat.lt_of_le_of_lt (Nat.div_le_self _ _) hcc
  refine R_L_builds_100 hLb (by omega) hw ?_
  rw [show (12 : Int32) = nI 12 from rfl, show (16 : Int32) = nI 16 from rfl, show (10 : Int32) = nI 10 from rfl, show (4 : Int32) = nI 4 from rfl, nI_shr hcc (by decide), nI_shr hcc (by decide), nI_rem d12 (by decide) (by decide), nI_rem d16 (by decide) (by decide), nI_1]
  refine ⟨by decide, fun x1 A1 q1 => ?_⟩
  have hw1 : wfA (c + 1) A1 := by have := K_build (v := o) (w := nI hd) (u := nI b) (x := nI (cc / 2 ^ 12 % 10)) hw; rw [q1] at this; exact this
  have hst : cc / 2 ^ 12 % 10 < 10 := Nat.mod_lt _ (by decide)
  generalize cc / 2 ^ 12 % 10 = st at q1 hst
  rw [op_build hB.1 hB.2.1 (by omega) ho hh h1 (fun z => by have := h2 z; omega) hst] at q1
  obtain ⟨rfl, qa⟩ := Prod.mk.inj q1
  have eA : A1.1.1 = nwD A.1.1 k o (nI hd) (nI b) (nI st) 0 := by rw [← qa]
  have hB1 := BI_new hB hk hm ho hh h1 h2 hst
  have h40 : fd (nwD A.1.1 k o (nI hd) (nI b) (nI st) 0) k 4 = 0 := nwD_4
  rw [← eA] at hB1 h40
  clear q1 qa eA
  have hr : cc / 2 ^ 16 % 4 < 4 := Nat.mod_lt _ (by decide)
  generalize cc / 2 ^ 16 % 4 = r at hr
  refine ⟨fun y => absurd rfl y, fun _ => ⟨by decide, fun _ => next (c + 1) A1 (by omega) hw1 hB1, fun c2 => ⟨by decide, fun x4 A4 q4 => ?_⟩⟩⟩
  have hw4 : wfA (c + 1 + 1) A4 := by have := K_setB (v := nI k) (w := nI r) hw1; rw [q4] at this; exact this
  rw [op_setB (n := k + 1) hB1.1 hB1.2.1 (by omega) hr (fun z => c2 (by rw [z]; rfl)) h40] at q4
  obtain ⟨rfl, qb⟩ := Prod.mk.inj q4
  have eA4 : A4.1.1 = cbF A1.1.1 k (nI r) := by rw [← qb]
  have hB4 := BI_set (k := k) hB1 (by omega) hr
  rw [← eA4] at hB4
  exact ⟨fun y => absurd rfl y, fun _ => next (c + 1 + 1) A4 (by omega) hw4 hB4⟩
theorem U_60 {o : Int32} (hLb : Lb ≤ 260) (hc : c + 2 ≤ 400) (hw : wfA c A) (hB : BI m k A.1.1) (hk : k < m) (hm : m ≤ 9) (ho : o = -5 ∨ ∃ j, j < k ∧ o = nI j) (hcc : cc < 2 ^ 31) (next : ∀ c1 A1, c1 ≤ c + 2 → wfA c1 A1 → BI m (k + 1) A1.1.1 → EA (some (Lb, xs)) (e + 8) nL_builds 16 (LU m (nI (k + 1))) [] A1 Q) : EA (some (Lb, xs)) (e + 8) nL_builds 60 [(0, .ref 0), (1, .retAddr 0), (2, .int (nI m)), (3, .int 1), (4, .int (nI k)), (5, .int (nI cc))] [.int o] A Q := by
  have d6 : cc / 2 ^ 6 < 2 ^ 31 := Nat.lt_of_le_of_lt (Nat.div_le_self _ _) hcc
  have d8 : cc / 2 ^ 8 < 2 ^ 31 := Nat.lt_of_le_of_lt (Nat.div_le_self _ _) hcc
  refine R_L_builds_60 hLb (by omega) hw ?_
  rw [show (6 : Int32) = nI 6 from rfl, show (8 : Int32) = nI 8 from rfl, show (10 : Int32) = nI 10 from rfl, show (4 : Int32) = nI 4 from rfl, nI_shr hcc (by decide), nI_shr hcc (by decide), nI_rem d6 (by decide) (by decide), nI_rem d8 (by decide) (by decide), nI_rem d8 (by omega) (by omega)]
  have hh : cc / 2 ^ 6 % 4 < 4 := Nat.mod_lt _ (by decide)
  generalize cc / 2 ^ 6 % 4 = h4 at hh
  have hb1 : cc / 2 ^ 8 % 10 < 10 := Nat.mod_lt _ (by decide)
  generalize cc / 2 ^ 8 % 10 = b1 at hb1
  have hb2 : cc / 2 ^ 8 % m < m := Nat.mod_lt _ (by omega)
  generalize cc / 2 ^ 8 % m = b2 at hb2
  refine ⟨by decide, fun c1 => ⟨by decide, ?_⟩, fun c1 => ⟨nI_ne0 (by omega) (by omega), ?_⟩⟩
  · exact U_100 hLb hc hw hB hk hm ho hh (fun _ => hb1) (fun z => absurd (by rw [z]; rfl) c1) hcc next
  · have e2 : h4 = 2 := (n_lt4 h4 hh).2.2.1 (Classical.not_not.mp c1)
    exact U_100 hLb hc hw hB hk hm ho hh (fun z => absurd (e2.symm.trans z) (by decide)) (fun _ => hb2) hcc next
/-! things -/
theorem op_lay {dp bt : Nat} (h : wf n A.1.1) (hg : A.1.1 1 = 0) (ht : t < 12) (hk : k < n) (h4 : fd A.1.1 k 4 = nI bt) (hb : bt ≤ 3) (hdp : dp ≤ bt) : opLay A (nI t) (nI k) (nI dp) = if ft A.1.1 t 0 = nI k ∧ ft A.1.1 t 1 = nI dp then (-5, A) else (laidN (layR A.1.1 t (nI k) (nI dp)), ((layR A.1.1 t (nI k) (nI dp), A.1.2), (recA A).2)) := by
  have hn := h.n16
  have hD := isD_of h.a0 hn hk
  unfold opLay
  have hb4 : btm A.1.1 (nI k) = nI bt := by show (if nI k = -5 then 0 else fd A.1.1 (nI k).toNatClampNeg 4) = _; rw [if_neg (m5_ne k (by omega)), kcl (by omega), h4]
  rw [if_pos ⟨isT_of ht, Or.inr hD⟩, hb4, if_pos ⟨nI_pos' (by omega), (nI_leI (by omega) (by omega)).mpr hdp⟩, if_neg (by rw [hg]; decide), nI_clamp (by omega)]
theorem layR_ft {o x : Int32} {j : Nat} (hj : j < 3) {t2 : Nat} : ft (layR a t o x) t2 j = if t2 = t ∧ j = 1 then x else if t2 = t ∧ j = 0 then o else ft a t2 j := by
  unfold layR; rw [ft_T (by decide) hj, ft_T (by decide) hj]
theorem layR_fd {o x : Int32} {j : Nat} (ht : t < 12) : fd (layR a t o x) k j = fd a k j := by
  unfold layR; rw [fd_T ht (by decide), fd_T ht (by decide)]
theorem laid_pos (ht : t < 12) (h : ft a t 0 ≠ -5) : ¬ laidN a ≤ 0 := by
  have e1 : laidN a = nI (nsum (fun i => i01 (!(ft a i 0 == -5))) 12) := by
    unfold laidN
    rw [← fs_nI]
    refine fs_w (fun i hi => ?_)
    by_cases z : ft a i 0 = -5
    · rw [if_pos z, z]; rfl
    · rw [if_neg z, show (ft a i 0 == -5) = false from beq_eq_false_iff_ne.mpr z]; rfl
  have h2 : nsum (fun i => i01 (!(ft a i 0 == -5))) 12 ≤ 12 * 1 := nsum_le (fun i _ => i01_1 _)
  have pos : ∀ (f : Nat → Nat) (m i : Nat), i < m → f i ≤ nsum f m := fun f m => by
    induction m with
    | zero => exact fun i hi => absurd hi (Nat.not_lt_zero i)
    | succ m ih =>
      intro i hi
      show f i ≤ nsum f m + f m
      by_cases z : i = m
      · subst z; omega
      · have := ih i (by omega); omega
  have h3 := pos (fun i => i01 (!(ft a i 0 == -5))) 12 t ht
  have h4 : i01 (!(ft a t 0 == -5)) = 1 := by rw [beq_eq_false_iff_ne.mpr h]; rfl
  rw [e1]
  exact nI_nle (by omega) (by omega)
/-- what is so while things are laid -/
def LI (n t : Nat) (a : V) : Prop := wf n a ∧ a 1 = 0 ∧ (∀ t2, t ≤ t2 → t2 < 12 → ft a t2 0 = -5) ∧ ∀ i, i < n → fd a i 1 = 2 → byN a i < n
theorem LI_lay {dp bt : Nat} (h : LI n t a) (ht : t < 12) (hk : k < n) (h4 : fd a k 4 = nI bt) (hb : bt ≤ 3) (hdp : dp ≤ bt) : LI n (t + 1) (layR a t (nI k) (nI dp)) := by
  obtain ⟨hw, hg, h0, hby⟩ := h
  refine ⟨wf_lay hw ht (Or.inr ⟨k, bt, dp, hk, rfl, h4, rfl, hdp, hb⟩), ?_, fun t2 h1 h2 => ?_, fun i hi z => ?_⟩
  · unfold layR; rw [hd_T (by decide), hd_T (by decide)]; exact hg
  · rw [layR_ft (by decide), if_neg (by omega), if_neg (by omega)]; exact h0 t2 (by omega) h2
  · rw [layR_fd ht] at z
    have : byN (layR a t (nI k) (nI dp)) i = byN a i := by unfold byN; rw [layR_fd ht]
    rw [this]; exact hby i hi z
theorem U_157 (hLb : Lb ≤ 260) (hn2 : 2 ≤ n) (hn9 : n ≤ 9) (hQ : ∀ c1 A1, c1 ≤ c + 24 → wfA c1 A1 → LI n 12 A1.1.1 → Q 1 A1) (hc : c + 24 ≤ 400) : ∀ (j t c1 : Nat) (A : Ab), t + j = 12 → c1 ≤ c + 2 * t → wfA c1 A → LI n t A.1.1 → EA (some (Lb, xs)) (e + 8) nL_builds 157 (LU n (nI t)) [] A Q
  | 0, t, c1, A, hj, h1, hw, hL => by
    obtain rfl : t = 12 := by omega
    refine R_L_builds_157 hLb (by omega) hw ⟨fun _ => ⟨Or.inr rfl, hQ c1 A (by omega) hw hL⟩, fun y => absurd (show (12 : Int32) ≤ nI 12 by decide) y⟩
  | j + 1, t, c1, A, hj, h1, hw, hL => by
    have ht : t < 12 := by omega
    have next := fun c2 A2 z => U_157 hLb hn2 hn9 hQ hc j (t + 1) c2 A2 (by omega) z
    obtain ⟨cc, hcc, ecc⟩ := cell_n Lb xs (11 + nI t)
    have d2 : cc / 2 ^ 2 < 2 ^ 31 := Nat.lt_of_le_of_lt (Nat.div_le_self _ _) hcc
    have d8 : cc / 2 ^ 8 < 2 ^ 31 := Nat.lt_of_le_of_lt (Nat.div_le_self _ _) hcc
    refine R_L_builds_157 hLb (by omega) hw ?_
    rw [ecc, show (8 : Int32) = nI 8 from rfl, show (2 : Int32) = nI 2 from rfl, nI_shr hcc (by decide), nI_shr hcc (by decide), nI_rem d2 (by omega) (by omega), nI_1]
    have hk : cc / 2 ^ 2 % n < n := Nat.mod_lt _ (by omega)
    generalize cc / 2 ^ 2 % n = k at hk
    obtain ⟨bt, hbt, e4, -⟩ := wf_bm hL.1 (show k < 16 by have := hL.1.n16; omega)
    rw [drw4 hL.1 hk, e4, show nI bt + (1 : Int32) = nI (bt + 1) from nI_1 bt, nI_rem d8 (by omega) (by omega)]
    have hdp : cc / 2 ^ 8 % (bt + 1) ≤ bt := Nat.le_of_lt_succ (Nat.mod_lt _ (by omega))
    generalize cc / 2 ^ 8 % (bt + 1) = dp at hdp
    refine ⟨fun y => absurd ((nI_leI (a := 12) (by decide) (by omega)).mp y) (by omega), fun _ => ⟨fun y => absurd y one_ne0, fun _ => ⟨?_, nI_ne0 (by omega) (by omega), nI_ne0 (by omega) (by omega), by decide, fun _ => next c1 A (by omega) hw ⟨hL.1, hL.2.1, fun t2 z1 z2 => hL.2.2.1 t2 (by omega) z2, hL.2.2.2⟩, fun _ => fun x6 A6 q6 => ?_⟩⟩⟩
    · rw [show (11 : Int32) = nI 11 from rfl, nI_add]; exact nI_pos' (by omega)
    · have hw6 : wfA (c1 + 1) A6 := by have := K_lay (v := nI t) (w := nI k) (u := nI dp) hw; rw [q6] at this; exact this
      have h2 : ft A.1.1 t 2 = 0 := (hL.1.ng hL.2.1).2 t ht
      rw [op_lay hL.1 hL.2.1 ht hk e4 hbt hdp, if_neg (by rw [hL.2.2.1 t (Nat.le_refl _) ht]; exact fun z => m5_ne k (by have := hL.1.n16; omega) z.1.symm)] at q6
      obtain ⟨rfl, rfl⟩ := Prod.mk.inj q6
      have hL6 := LI_lay hL ht hk e4 hbt hdp
      have f0 : ft (layR A.1.1 t (nI k) (nI dp)) t 0 = nI k := by rw [layR_ft (by decide), if_neg (by omega), if_pos ⟨rfl, rfl⟩]
      have f1 : ft (layR A.1.1 t (nI k) (nI dp)) t 1 = nI dp := by rw [layR_ft (by decide), if_pos ⟨rfl, rfl⟩]
      have f2 : ft (layR A.1.1 t (nI k) (nI dp)) t 2 = 0 := by rw [layR_ft (by decide), if_neg (by omega), if_neg (by omega)]; exact h2
      have o0 : opThing (layR A.1.1 t (nI k) (nI dp)) (nI t) 0 = nI k := by rw [thg0 ht, f2, if_neg (by decide), f0]
      have o1 : opThing (layR A.1.1 t (nI k) (nI dp)) (nI t) 1 = nI dp := by rw [thg1 ht, f2, if_neg (by decide), f1]
      refine ⟨fun y => absurd y (laid_pos ht (by rw [f0]; exact m5_ne k (by have := hL.1.n16; omega))), fun _ => ⟨fun y => absurd o0 y, fun _ => ⟨fun y => absurd o1 y, fun _ => fun x12 A12 q12 => ?_⟩⟩⟩
      have hw12 : wfA (c1 + 1 + 1) A12 := by have := K_lay (v := nI t) (w := nI k) (u := nI dp) hw6; rw [q12] at this; exact this
      rw [op_lay (bt := bt) hL6.1 hL6.2.1 ht hk (by rw [layR_fd ht]; exact e4) hbt hdp, if_pos ⟨f0, f1⟩] at q12
      obtain ⟨rfl, rfl⟩ := Prod.mk.inj q12
      exact ⟨fun y => absurd rfl y, fun _ => next (c1 + 1 + 1) _ (by omega) hw12 hL6⟩
theorem U_16 (hLb : Lb ≤ 260) (hm2 : 2 ≤ m) (hm9 : m ≤ 9) (hQ : ∀ c1 A1, c1 ≤ c + 42 → wfA c1 A1 → LI m 12 A1.1.1 → Q 1 A1) (hc : c + 42 ≤ 400) : ∀ (j k c1 : Nat) (A : Ab), k + j = m → c1 ≤ c + 2 * k → wfA c1 A → BI m k A.1.1 → EA (some (Lb, xs)) (e + 8) nL_builds 16 (LU m (nI k)) [] A Q
  | 0, k, c1, A, hj, h1, hw, hB => by
    obtain rfl : k = m := by omega
    refine R_L_builds_16 hLb (by omega) hw ⟨fun _ => ?_, fun y => absurd ((nI_leI (by omega) (by omega)).mpr (Nat.le_refl _)) y⟩
    exact U_157 hLb hm2 hm9 (c := c + 18) (fun c2 A2 z => hQ c2 A2 (by omega)) (by omega) 12 0 c1 A rfl (by omega) hw ⟨hB.1, hB.2.1, fun t2 _ z => hB.2.2.1 t2 z, hB.2.2.2⟩
  | j + 1, k, c1, A, hj, h1, hw, hB => by
    have next : ∀ c2 A2, c2 ≤ c1 + 2 → wfA c2 A2 → BI m (k + 1) A2.1.1 → EA (some (Lb, xs)) (e + 8) nL_builds 16 (LU m (nI (k + 1))) [] A2 Q := fun c2 A2 z => U_16 hLb hm2 hm9 hQ hc j (k + 1) c2 A2 (by omega) (by omega)
    obtain ⟨cc, hcc, ecc⟩ := cell_n Lb xs (1 + nI k)
    have d2 : cc / 2 ^ 2 < 2 ^ 31 := Nat.lt_of_le_of_lt (Nat.div_le_self _ _) hcc
    have key : ∀ o : Int32, (o = -5 ∨ ∃ j, j < k ∧ o = nI j) → EA (some (Lb, xs)) (e + 8) nL_builds 60 [(0, .ref 0), (1, .retAddr 0), (2, .int (nI m)), (3, .int 1), (4, .int (nI k)), (5, .int (nI cc))] [.int o] A Q := fun o ho => U_60 hLb (by omega) hw hB (by omega) hm9 ho hcc next
    refine R_L_builds_16 hLb (by omega) hw ?_
    rw [ecc]
    refine ⟨fun y => absurd ((nI_leI (by omega) (by omega)).mp y) (by omega), fun _ => ⟨fun y => absurd y one_ne0, fun _ => ⟨?_, fun _ => key _ (Or.inl rfl), fun c2 => ⟨by decide, fun _ => ⟨c2, key _ ?_⟩, fun _ => key _ (Or.inl rfl)⟩⟩⟩⟩
    · rw [show (1 : Int32) = nI 1 from rfl, nI_add]; exact nI_pos' (by omega)
    · have hk0 : 0 < k := Nat.pos_of_ne_zero (fun z => c2 (by rw [z]; rfl))
      rw [show (2 : Int32) = nI 2 from rfl, nI_shr hcc (by decide), nI_rem d2 hk0 (by omega)]
      exact Or.inr ⟨_, Nat.mod_lt _ hk0, rfl⟩
theorem T_builds (hLb : Lb ≤ 260) (hc : c + 42 ≤ 400) (hw : wfA c A) (hB : ∀ m, BI m 0 A.1.1) : CA (some (Lb, xs)) (e + 9) nL_builds [.ref 0, .retAddr 0] A (fun x A1 => x = 1 ∧ ∃ c1 n, c1 ≤ c + 42 ∧ wfA c1 A1 ∧ 2 ≤ n ∧ n ≤ 9 ∧ LI n 12 A1.1.1) := by
  obtain ⟨cc, hcc, ecc⟩ := cell_n Lb xs 0
  have h8 : cc % 8 < 8 := Nat.mod_lt _ (by decide)
  refine ca_of rfl rfl (R_L_builds_0 hLb (by omega) hw ?_)
  rw [ecc, show (8 : Int32) = nI 8 from rfl, nI_rem hcc (by decide) (by decide), show (2 : Int32) + nI (cc % 8) = nI (2 + cc % 8) from nI_add 2 _]
  refine ⟨by decide, by decide, ?_⟩
  exact U_16 hLb (m := 2 + cc % 8) (c := c) (by omega) (by omega) (fun c1 A1 h1 h2 h3 => ⟨rfl, c1, _, h1, h2, by omega, by omega, h3⟩) hc (2 + cc % 8) 0 c A (by omega) (by omega) hw (hB _)
end BU
