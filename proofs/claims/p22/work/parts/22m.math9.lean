theorem updZ_to {f : Nat → Int} {i v : Int} (hf : ∀ k : Nat, (k : Int) < i → f k = v) (h0 : 0 ≤ i) : ∀ k : Nat, (k : Int) < i + 1 → updZ f i.toNat v k = v := by
  intro k hk
  rcases jlt h0 hk with g | g
  · rw [updZ_n (by omega)]
    exact hf k g
  · rw [g]
    exact updZ_s _ _ _
/-- a Spread's cells hold a search's state -/
def SpOK (S : BS) (g h : Nat → Int) (ct : Int) : Prop := LenOK S.2.1 g ∧ ct = (S.1.length : Int) ∧ S.1.length ≤ 9163 ∧ ∀ j : Nat, j < S.1.length → h j = bsAt S j
theorem bsAt_push {S : BS} {q f : Int} (hc : q ≠ -1 ∧ S.2.1 q = -1) : (∀ j : Nat, j < S.1.length → bsAt (bsR S q f) j = bsAt S j) ∧ bsAt (bsR S q f) S.1.length = q ∧ (bsR S q f).1.length = S.1.length + 1 := by
  have e : bsR S q f = (S.1 ++ [q], fun z => if z = q then S.2.1 f + 1 else S.2.1 z, fun z => if z = q then f else S.2.2 z) := if_pos hc
  refine ⟨fun j hj => ?_, ?_, by rw [e]; simp⟩
  · unfold bsAt
    rw [e]
    show (S.1 ++ [q]).getD j 0 = S.1.getD j 0
    rw [List.getD_eq_getElem?_getD, List.getD_eq_getElem?_getD, List.getElem?_append_left hj]
  · unfold bsAt
    rw [e]
    show (S.1 ++ [q]).getD S.1.length 0 = q
    rw [List.getD_eq_getElem?_getD, List.getElem?_append_right (Nat.le_refl _)]
    simp
theorem SpOK_R {S : BS} {g h : Nat → Int} {ct a f : Int} (hS : SpOK S g h ct) (hc : a ≠ -1 ∧ S.2.1 a = -1) (ha0 : 0 ≤ a) (ha : a < 16807) (hf : 0 ≤ S.2.1 f) (hf2 : S.2.1 f < 19999) (hl : (bsR S a f).1.length ≤ 9163) : SpOK (bsR S a f) (updZ g a.toNat (S.2.1 f + 1)) (updZ h ct.toNat a) (ct + 1) := by
  obtain ⟨⟨h1, h2, h3⟩, h4, h5, h6⟩ := hS
  obtain ⟨p1, p2, p3⟩ := bsAt_push (f := f) hc
  have hD : ∀ z, (bsR S a f).2.1 z = if z = a then S.2.1 f + 1 else S.2.1 z := fun z => by rw [show bsR S a f = (S.1 ++ [a], fun z => if z = a then S.2.1 f + 1 else S.2.1 z, fun z => if z = a then f else S.2.2 z) from if_pos hc]
  refine ⟨⟨fun k hk => ?_, fun z => ?_, fun z hz => ?_⟩, by rw [p3, h4]; omega, hl, fun j hj => ?_⟩
  · rw [hD]
    by_cases hka : (k : Int) = a
    · rw [if_pos hka, show k = a.toNat by omega, updZ_s]
    · rw [if_neg hka, updZ_n (by omega)]
      exact h1 k hk
  · rw [hD]
    have := h2 z
    split <;> omega
  · rw [hD, if_neg (by omega)]
    exact h3 z hz
  · by_cases hj2 : j < S.1.length
    · rw [p1 j hj2, updZ_n (by omega)]
      exact h6 j hj2
    · rw [show j = S.1.length by omega, p2, show ct.toNat = S.1.length by omega, updZ_s]
theorem SpOK_0 {s : Int} {g h : Nat → Int} (hs0 : 0 ≤ s) (hs : s < 16807) (hg : ∀ k : Nat, k < 16807 → g k = -1) : SpOK (bs0 s) (updZ g s.toNat 0) (updZ h 0 s) 1 := by
  refine ⟨⟨fun k hk => ?_, fun z => ?_, fun z hz => ?_⟩, rfl, by show (1 : Nat) ≤ 9163; omega, fun j hj => ?_⟩
  · show updZ g s.toNat 0 k = if (k : Int) = s then 0 else -1
    by_cases hks : (k : Int) = s
    · rw [if_pos hks, show k = s.toNat by omega, updZ_s]
    · rw [if_neg hks, updZ_n (by omega)]
      exact hg k hk
  · show -1 ≤ (if z = s then (0 : Int) else -1) ∧ (if z = s then (0 : Int) else -1) < 20000
    split <;> omega
  · show (if z = s then (0 : Int) else -1) = -1
    rw [if_neg (by omega)]
  · have hj : j < 1 := hj
    rw [show j = 0 by omega]
    exact updZ_s _ _ _
theorem bsR_b {S : BS} {q f : Int} (h : ∀ z, S.2.1 z < (S.1.length : Int)) : ∀ z, (bsR S q f).2.1 z < ((bsR S q f).1.length : Int) := by
  intro z
  by_cases hc : q ≠ -1 ∧ S.2.1 q = -1
  · have e : bsR S q f = (S.1 ++ [q], fun z => if z = q then S.2.1 f + 1 else S.2.1 z, fun z => if z = q then f else S.2.2 z) := if_pos hc
    rw [e]
    show (if z = q then S.2.1 f + 1 else S.2.1 z) < ((S.1 ++ [q]).length : Int)
    rw [List.length_append]
    have h1 := h f
    have h2 := h z
    split <;> simp <;> omega
  · rw [bsR_no hc]
    exact h z
/-- the search goes on as it was to -/
theorem bsG_s {nb : Int → Int → Int} {n i : Nat} {S X : BS} (h : bsG nb (n + 1) i S = X) (hl : i < S.1.length) : bsG nb n (i + 1) (bsK nb S (bsAt S i) 4) = X := by
  rw [← h]
  show _ = if i < S.1.length then bsG nb n (i + 1) (bsK nb S (bsAt S i) 4) else S
  rw [if_pos hl]
theorem bsG_e {nb : Int → Int → Int} {n i : Nat} {S X : BS} (h : bsG nb n i S = X) (hl : n = 0 ∨ ¬ i < S.1.length) : S = X := by
  cases n with
  | zero => exact h
  | succ n =>
    rw [← h]
    show S = if i < S.1.length then bsG nb n (i + 1) (bsK nb S (bsAt S i) 4) else S
    rw [if_neg (by omega)]
theorem bsF_s {nb : Int → Int → Int} {q : Int} {n i : Nat} {S : BS} {X : Int × BS} (h : bsF nb q (n + 1) i S = X) (hl : i < S.1.length) (hq : ¬ bsAt S i / 343 = q) : bsF nb q n (i + 1) (bsK nb S (bsAt S i) 4) = X := by
  rw [← h]
  show _ = if i < S.1.length then (if bsAt S i / 343 = q then (bsAt S i, S) else bsF nb q n (i + 1) (bsK nb S (bsAt S i) 4)) else (-1, S)
  rw [if_pos hl, if_neg hq]
theorem bsF_q {nb : Int → Int → Int} {q : Int} {n i : Nat} {S : BS} {X : Int × BS} (h : bsF nb q n i S = X) (hn : n ≠ 0) (hl : i < S.1.length) (hq : bsAt S i / 343 = q) : X = (bsAt S i, S) := by
  cases n with
  | zero => exact absurd rfl hn
  | succ n =>
    rw [← h]
    show (if i < S.1.length then (if bsAt S i / 343 = q then (bsAt S i, S) else bsF nb q n (i + 1) (bsK nb S (bsAt S i) 4)) else (-1, S)) = _
    rw [if_pos hl, if_pos hq]
theorem bsF_e {nb : Int → Int → Int} {q : Int} {n i : Nat} {S : BS} {X : Int × BS} (h : bsF nb q n i S = X) (hl : n = 0 ∨ ¬ i < S.1.length) : X = (-1, S) := by
  cases n with
  | zero => exact h.symm
  | succ n =>
    rw [← h]
    show (if i < S.1.length then (if bsAt S i / 343 = q then (bsAt S i, S) else bsF nb q n (i + 1) (bsK nb S (bsAt S i) 4)) else (-1, S)) = _
    rw [if_neg (by omega)]
theorem astZ_gd {C R np : Int} {N L : Int → Int} {gn : Nat → Int} (hF : FlOK C R np N gn) {lim z d : Int} (hz : GdZ C R N z) (hd0 : 0 ≤ d) (hd : d ≤ 3) (h : astZ C R N L lim z d ≠ -1) : GdZ C R N (astZ C R N L lim z d) := by
  unfold astZ at h ⊢
  split at h
  · rename_i hc
    rw [if_pos hc]
    exact (aftZ_back hF hz hd0 hd h).1
  · exact absurd rfl h
theorem astZ_b {C R np : Int} {N L : Int → Int} {gn : Nat → Int} (hF : FlOK C R np N gn) {lim z d : Int} (h0 : 0 ≤ z) (h1 : z < 16807) (h2 : z / 343 % 7 < R) : -1 ≤ astZ C R N L lim z d ∧ astZ C R N L lim z d < 16807 := by
  have := aftZ_b hF (d := d) h0 h1 h2
  unfold astZ
  split <;> omega
