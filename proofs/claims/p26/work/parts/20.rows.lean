/-! rows, place by place, and what a State's cells say of them -/
def updH (a : V) (i : Nat) (x : Int32) : V := fun j => if j = i then x else a j
def updF (a : V) (k j : Nat) (x : Int32) : V := fun i => if i = 40 + 8 * k + j then x else a i
def updT (a : V) (t j : Nat) (x : Int32) : V := fun i => if i = 4 + 3 * t + j then x else a i
theorem row_H {M : Im} {i : Nat} {x : Int32} : up2 M 74 i x 74 = updH (M 74) i x := up2_row _ _ _ _
theorem row_F {M : Im} {k j : Nat} {x : Int32} : up2 M 74 (40 + 8 * k + j) x 74 = updF (M 74) k j x := up2_row _ _ _ _
theorem row_T {M : Im} {t j : Nat} {x : Int32} : up2 M 74 (4 + 3 * t + j) x 74 = updT (M 74) t j x := up2_row _ _ _ _
section UR
variable {a : V} {k j k2 j2 t t2 i i2 : Nat} {x : Int32}
theorem fd_F (h1 : j < 8) (h2 : j2 < 8) : fd (updF a k j x) k2 j2 = if k2 = k ∧ j2 = j then x else fd a k2 j2 := by
  unfold updF fd; dsimp only
  by_cases h : k2 = k ∧ j2 = j
  · rw [if_pos h, if_pos (by omega)]
  · rw [if_neg h, if_neg (by omega)]
theorem fd_F_ne (h : ¬ (k2 = k ∧ j2 = j)) (h1 : j < 8) (h2 : j2 < 8) : fd (updF a k j x) k2 j2 = fd a k2 j2 := by rw [fd_F h1 h2, if_neg h]
theorem ft_F (h1 : t < 12) (h2 : j2 < 3) : ft (updF a k j x) t j2 = ft a t j2 := by unfold updF ft; dsimp only; rw [if_neg (by omega)]
theorem hd_F (h : i < 40) : updF a k j x i = a i := by unfold updF; rw [if_neg (by omega)]
theorem fd_T (h1 : t < 12) (h2 : j < 3) : fd (updT a t j x) k j2 = fd a k j2 := by unfold updT fd; dsimp only; rw [if_neg (by omega)]
theorem ft_T (h1 : j < 3) (h2 : j2 < 3) : ft (updT a t j x) t2 j2 = if t2 = t ∧ j2 = j then x else ft a t2 j2 := by
  unfold updT ft; dsimp only
  by_cases h : t2 = t ∧ j2 = j
  · rw [if_pos h, if_pos (by omega)]
  · rw [if_neg h, if_neg (by omega)]
theorem hd_T (h : i < 4) : updT a t j x i = a i := by unfold updT; rw [if_neg (by omega)]
theorem fd_H (h : i < 4) : fd (updH a i x) k j = fd a k j := by unfold updH fd; dsimp only; rw [if_neg (by omega)]
theorem ft_H (h : i < 4) : ft (updH a i x) t j = ft a t j := by unfold updH ft; dsimp only; rw [if_neg (by omega)]
theorem hd_H : updH a i x i2 = if i2 = i then x else a i2 := rfl
end UR
section RU
variable {S q : Nat} {M : Im} {a : V} {x : Int32}
theorem RS_H (i : Nat) (hi : i < 3) (hR : RS M S a q) : RS (up2 M S i x) S (updH a i x) q := by
  obtain ⟨h0, h1, h2, h3, h4, h5, h6, h7, h8⟩ := hR
  refine ⟨?_, ?_, ?_, ?_, ?_, ?_, ?_, fun k hk => ?_, fun t ht => ?_⟩
  · simp only [up2, hd_H]; by_cases e : 0 = i <;> simp [e, h0]
  · simp only [up2, hd_H]; by_cases e : 1 = i <;> simp [e, h1]
  · simp only [up2, hd_H]; by_cases e : 2 = i <;> simp [e, h2]
  · simp only [up2]; rw [if_neg (by omega)]; exact h3
  · simp only [up2]; rw [if_neg (by omega)]; exact bs_w h4 (fun k _ => by rw [fd_H (by omega)])
  · simp only [up2]; rw [if_neg (by omega)]; exact bs_w h5 (fun k _ => by rw [fd_H (by omega)])
  · simp only [up2]; rw [if_neg (by omega)]; exact bs_w h6 (fun k _ => by rw [ft_H (by omega)])
  · simp only [fd_H (show i < 4 by omega)]
    rw [up2_ne _ _ _ (by omega), up2_ne _ _ _ (by omega), up2_ne _ _ _ (by omega), up2_ne _ _ _ (by omega), up2_ne _ _ _ (by omega), up2_ne _ _ _ (by omega)]
    exact h7 k hk
  · simp only [ft_H (show i < 4 by omega)]
    rw [up2_ne _ _ _ (by omega), up2_ne _ _ _ (by omega)]
    exact h8 t ht
theorem RS_q {q2 : Nat} (hx : x = nI q2) (hR : RS M S a q) : RS (up2 M S 3 x) S a q2 := by
  obtain ⟨h0, h1, h2, h3, h4, h5, h6, h7, h8⟩ := hR
  refine ⟨?_, ?_, ?_, ?_, ?_, ?_, ?_, fun k hk => ?_, fun t ht => ?_⟩
  · simp only [up2]; rw [if_neg (by omega)]; exact h0
  · simp only [up2]; rw [if_neg (by omega)]; exact h1
  · simp only [up2]; rw [if_neg (by omega)]; exact h2
  · simp [up2, hx]
  · simp only [up2]; rw [if_neg (by omega)]; exact h4
  · simp only [up2]; rw [if_neg (by omega)]; exact h5
  · simp only [up2]; rw [if_neg (by omega)]; exact h6
  · rw [up2_ne _ _ _ (by omega), up2_ne _ _ _ (by omega), up2_ne _ _ _ (by omega), up2_ne _ _ _ (by omega), up2_ne _ _ _ (by omega), up2_ne _ _ _ (by omega)]
    exact h7 k hk
  · rw [up2_ne _ _ _ (by omega), up2_ne _ _ _ (by omega)]
    exact h8 t ht
/-- an array of the drawers -/
theorem RS_F (k j : Nat) (hj : j < 6) (hk : k < 16) (hR : RS M S a q) : RS (up2 M (S + 1 + j) k x) S (updF a k j x) q := by
  obtain ⟨h0, h1, h2, h3, h4, h5, h6, h7, h8⟩ := hR
  have hn : S ≠ S + 1 + j := by omega
  refine ⟨?_, ?_, ?_, ?_, ?_, ?_, ?_, fun i hi => ?_, fun t ht => ?_⟩
  · rw [up2_ne _ _ _ hn, hd_F (by omega)]; exact h0
  · rw [up2_ne _ _ _ hn, hd_F (by omega)]; exact h1
  · rw [up2_ne _ _ _ hn, hd_F (by omega)]; exact h2
  · rw [up2_ne _ _ _ hn]; exact h3
  · rw [up2_ne _ _ _ hn]; exact bs_w h4 (fun i _ => by rw [fd_F_ne (by omega) (by omega) (by omega)])
  · rw [up2_ne _ _ _ hn]; exact bs_w h5 (fun i _ => by rw [fd_F_ne (by omega) (by omega) (by omega)])
  · rw [up2_ne _ _ _ hn]; exact bs_w h6 (fun i hi => by rw [ft_F (by omega) (by omega)])
  · obtain ⟨g1, g2, g3, g4, g5, g6⟩ := h7 i hi
    rw [fd_F (by omega) (by omega), fd_F (by omega) (by omega), fd_F (by omega) (by omega), fd_F (by omega) (by omega), fd_F (by omega) (by omega), fd_F (by omega) (by omega), ← g1, ← g2, ← g3, ← g4, ← g5, ← g6]
    simp only [up2]
    refine ⟨?_, ?_, ?_, ?_, ?_, ?_⟩ <;> (congr 1; apply propext; omega)
  · rw [up2_ne _ _ _ (by omega), up2_ne _ _ _ (by omega), ft_F ht (by omega), ft_F ht (by omega)]
    exact h8 t ht
/-- an array of the things -/
theorem RS_T (t j : Nat) (hj : j < 2) (ht : t < 12) (hR : RS M S a q) : RS (up2 M (S + 7 + j) t x) S (updT a t j x) q := by
  obtain ⟨h0, h1, h2, h3, h4, h5, h6, h7, h8⟩ := hR
  have hn : S ≠ S + 7 + j := by omega
  refine ⟨?_, ?_, ?_, ?_, ?_, ?_, ?_, fun i hi => ?_, fun i hi => ?_⟩
  · rw [up2_ne _ _ _ hn, hd_T (by omega)]; exact h0
  · rw [up2_ne _ _ _ hn, hd_T (by omega)]; exact h1
  · rw [up2_ne _ _ _ hn, hd_T (by omega)]; exact h2
  · rw [up2_ne _ _ _ hn]; exact h3
  · rw [up2_ne _ _ _ hn]; exact bs_w h4 (fun i _ => by rw [fd_T ht (by omega)])
  · rw [up2_ne _ _ _ hn]; exact bs_w h5 (fun i _ => by rw [fd_T ht (by omega)])
  · rw [up2_ne _ _ _ hn]; exact bs_w h6 (fun i hi => by rw [ft_T (by omega) (by omega), if_neg (by omega)])
  · simp only [fd_T ht (show j < 3 by omega)]
    rw [up2_ne _ _ _ (by omega), up2_ne _ _ _ (by omega), up2_ne _ _ _ (by omega), up2_ne _ _ _ (by omega), up2_ne _ _ _ (by omega), up2_ne _ _ _ (by omega)]
    exact h7 i hi
  · obtain ⟨g1, g2⟩ := h8 i hi
    rw [ft_T (by omega) (by omega), ft_T (by omega) (by omega), ← g1, ← g2]
    simp only [up2]
    refine ⟨?_, ?_⟩ <;> (congr 1; apply propext; omega)
/-- the sets: opened (6), broken (7) -/
theorem RS_set (k f : Nat) (hk : k < 16) (hf : f = 4 ∨ f = 5) (b : Bool) (y : Int32) (hy : bset y 16 (fun i => if i = k then b else fd a i (f + 2) == 1)) (hR : RS M S a q) : RS (up2 M S f y) S (updF a k (f + 2) (b2i b)) q := by
  obtain ⟨h0, h1, h2, h3, h4, h5, h6, h7, h8⟩ := hR
  refine ⟨?_, ?_, ?_, ?_, ?_, ?_, ?_, fun i hi => ?_, fun t ht => ?_⟩
  · simp only [up2]; rw [if_neg (by omega), hd_F (by omega)]; exact h0
  · simp only [up2]; rw [if_neg (by omega), hd_F (by omega)]; exact h1
  · simp only [up2]; rw [if_neg (by omega), hd_F (by omega)]; exact h2
  · simp only [up2]; rw [if_neg (by omega)]; exact h3
  · rcases hf with rfl | rfl
    · rw [show ∀ (c i : Nat) (x : Int32), up2 M c i x c i = x from fun c i x => by simp [up2]]
      refine bs_w hy (fun i _ => ?_)
      rw [fd_F (by omega) (by omega)]
      by_cases e : i = k
      · subst e; cases b <;> simp [b2i]
      · simp [e]
    · simp only [up2]; rw [if_neg (by omega)]
      exact bs_w h4 (fun i _ => by rw [fd_F_ne (by omega) (by omega) (by omega)])
  · rcases hf with rfl | rfl
    · simp only [up2]; rw [if_neg (by omega)]
      exact bs_w h5 (fun i _ => by rw [fd_F_ne (by omega) (by omega) (by omega)])
    · rw [show ∀ (c i : Nat) (x : Int32), up2 M c i x c i = x from fun c i x => by simp [up2]]
      refine bs_w hy (fun i _ => ?_)
      rw [fd_F (by omega) (by omega)]
      by_cases e : i = k
      · subst e; cases b <;> simp [b2i]
      · simp [e]
  · simp only [up2]; rw [if_neg (by omega)]; exact bs_w h6 (fun i hi => by rw [ft_F hi (by omega)])
  · rw [up2_ne _ _ _ (by omega), up2_ne _ _ _ (by omega), up2_ne _ _ _ (by omega), up2_ne _ _ _ (by omega), up2_ne _ _ _ (by omega), up2_ne _ _ _ (by omega), fd_F_ne (by omega) (by omega) (by omega), fd_F_ne (by omega) (by omega) (by omega), fd_F_ne (by omega) (by omega) (by omega), fd_F_ne (by omega) (by omega) (by omega), fd_F_ne (by omega) (by omega) (by omega), fd_F_ne (by omega) (by omega) (by omega)]
    exact h7 i hi
  · rw [up2_ne _ _ _ (by omega), up2_ne _ _ _ (by omega), ft_F ht (by omega), ft_F ht (by omega)]
    exact h8 t ht
/-- the things in hand -/
theorem RS_hand (t : Nat) (ht : t < 12) (hR : RS M S a q) : RS (up2 M S 6 (M S 6 ||| (1 <<< (nI t &&& 31)))) S (updT a t 2 1) q := by
  obtain ⟨h0, h1, h2, h3, h4, h5, h6, h7, h8⟩ := hR
  refine ⟨?_, ?_, ?_, ?_, ?_, ?_, ?_, fun i hi => ?_, fun i hi => ?_⟩
  · simp only [up2]; rw [if_neg (by omega), hd_T (by omega)]; exact h0
  · simp only [up2]; rw [if_neg (by omega), hd_T (by omega)]; exact h1
  · simp only [up2]; rw [if_neg (by omega), hd_T (by omega)]; exact h2
  · simp only [up2]; rw [if_neg (by omega)]; exact h3
  · simp only [up2]; rw [if_neg (by omega)]; exact bs_w h4 (fun i _ => by rw [fd_T ht (by omega)])
  · simp only [up2]; rw [if_neg (by omega)]; exact bs_w h5 (fun i _ => by rw [fd_T ht (by omega)])
  · rw [show ∀ (c i : Nat) (x : Int32), up2 M c i x c i = x from fun c i x => by simp [up2]]
    refine bs_w (bs_put h6 ht (by decide)) (fun i hi => ?_)
    rw [ft_T (by omega) (by omega)]
    by_cases e : i = t <;> simp [e]
  · simp only [fd_T ht (show 2 < 3 by omega)]
    rw [up2_ne _ _ _ (by omega), up2_ne _ _ _ (by omega), up2_ne _ _ _ (by omega), up2_ne _ _ _ (by omega), up2_ne _ _ _ (by omega), up2_ne _ _ _ (by omega)]
    exact h7 i hi
  · rw [up2_ne _ _ _ (by omega), up2_ne _ _ _ (by omega), ft_T (by omega) (by omega), ft_T (by omega) (by omega), if_neg (by omega), if_neg (by omega)]
    exact h8 i hi
end RU
