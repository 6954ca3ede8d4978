/-- the reference's arrays hold a search's state: its lengths and its queue -/
def MSOK (S : BS) (gl gq : Nat → Int) : Prop := MLen S.2.1 gl ∧ ∀ j : Nat, j < S.1.length → gq j = tauZ (bsAt S j)
theorem tauZ_inj {x y : Int} (hx0 : 0 ≤ x) (hx : x < 16807) (hy0 : 0 ≤ y) (hy : y < 16807) (h : tauZ x = tauZ y) : x = y := by
  rw [← tauZ_tauZ hx0 hx, h, tauZ_tauZ hy0 hy]
theorem bsR_D {S : BS} {q f : Int} (hc : q ≠ -1 ∧ S.2.1 q = -1) (z : Int) : (bsR S q f).2.1 z = (if z = q then S.2.1 f + 1 else S.2.1 z) ∧ (bsR S q f).2.2 z = if z = q then f else S.2.2 z := by
  have e : bsR S q f = (S.1 ++ [q], fun z => if z = q then S.2.1 f + 1 else S.2.1 z, fun z => if z = q then f else S.2.2 z) := if_pos hc
  rw [e]
  exact ⟨rfl, rfl⟩
theorem MSOK_0 {s : Int} {gl gq : Nat → Int} (hs0 : 0 ≤ s) (hs : s < 16807) (hg : ∀ k : Nat, (k : Int) < 16807 → gl k = -1) : MSOK (bs0 s) (updZ gl (tauZ s).toNat 0) (updZ gq 0 (tauZ s)) := by
  have ht := tauZ_of hs0 hs
  refine ⟨⟨fun z z0 z1 => ?_, fun z => ?_, fun z hz => ?_⟩, fun j hj => ?_⟩
  · show updZ gl (tauZ s).toNat 0 (tauZ z).toNat = if z = s then 0 else -1
    have hz := tauZ_of z0 z1
    by_cases hzs : z = s
    · rw [if_pos hzs, hzs, updZ_s]
    · rw [if_neg hzs, updZ_n]
      · exact hg _ (by omega)
      · intro e
        exact hzs (tauZ_inj z0 z1 hs0 hs (by omega))
  · show -1 ≤ (if z = s then (0 : Int) else -1) ∧ (if z = s then (0 : Int) else -1) < 20000
    split <;> omega
  · show (if z = s then (0 : Int) else -1) = -1
    rw [if_neg (by omega)]
  · have hj : j < 1 := hj
    rw [show j = 0 by omega]
    exact updZ_s _ _ _
theorem MSOK_R {S : BS} {gl gq : Nat → Int} {a f : Int} (hS : MSOK S gl gq) (hc : a ≠ -1 ∧ S.2.1 a = -1) (ha0 : 0 ≤ a) (ha : a < 16807) (hf : 0 ≤ S.2.1 f) (hf2 : S.2.1 f < 19999) : MSOK (bsR S a f) (updZ gl (tauZ a).toNat (S.2.1 f + 1)) (updZ gq S.1.length (tauZ a)) := by
  obtain ⟨⟨h1, h2, h3⟩, h6⟩ := hS
  obtain ⟨p1, p2, p3⟩ := bsAt_push (f := f) hc
  have hat := tauZ_of ha0 ha
  refine ⟨⟨fun z z0 z1 => ?_, fun z => ?_, fun z hz => ?_⟩, fun j hj => ?_⟩
  · rw [(bsR_D hc z).1]
    have hz := tauZ_of z0 z1
    by_cases hza : z = a
    · rw [if_pos hza, hza, updZ_s]
    · rw [if_neg hza, updZ_n]
      · exact h1 z z0 z1
      · intro e
        exact hza (tauZ_inj z0 z1 ha0 ha (by omega))
  · rw [(bsR_D hc z).1]
    have := h2 z
    split <;> omega
  · rw [(bsR_D hc z).1, if_neg (by omega)]
    exact h3 z hz
  · by_cases hj2 : j < S.1.length
    · rw [p1 j hj2, updZ_n (by omega)]
      exact h6 j hj2
    · rw [show j = S.1.length by omega, p2, updZ_s]
/-- .. its parents and its queue -/
def MBOK (S : BS) (gb gq : Nat → Int) : Prop := (∀ z : Int, 0 ≤ z → z < 16807 → gb (tauZ z).toNat = if S.2.1 z = -1 then -1 else tauZ (S.2.2 z)) ∧ ∀ j : Nat, j < S.1.length → gq j = tauZ (bsAt S j)
theorem MBOK_0 {s : Int} {gb gq : Nat → Int} (hs0 : 0 ≤ s) (hs : s < 16807) (hg : ∀ k : Nat, (k : Int) < 16807 → gb k = -1) : MBOK (bs0 s) (updZ gb (tauZ s).toNat (tauZ s)) (updZ gq 0 (tauZ s)) := by
  have ht := tauZ_of hs0 hs
  refine ⟨fun z z0 z1 => ?_, fun j hj => ?_⟩
  · show updZ gb (tauZ s).toNat (tauZ s) (tauZ z).toNat = if (if z = s then (0 : Int) else -1) = -1 then -1 else tauZ s
    have hz := tauZ_of z0 z1
    by_cases hzs : z = s
    · rw [if_pos hzs, if_neg (by decide), hzs, updZ_s]
    · rw [if_neg hzs, if_pos rfl, updZ_n]
      · exact hg _ (by omega)
      · intro e
        exact hzs (tauZ_inj z0 z1 hs0 hs (by omega))
  · have hj : j < 1 := hj
    rw [show j = 0 by omega]
    exact updZ_s _ _ _
theorem MBOK_R {S : BS} {gb gq : Nat → Int} {a f : Int} (hS : MBOK S gb gq) (hc : a ≠ -1 ∧ S.2.1 a = -1) (ha0 : 0 ≤ a) (ha : a < 16807) (hf : 0 ≤ S.2.1 f) : MBOK (bsR S a f) (updZ gb (tauZ a).toNat (tauZ f)) (updZ gq S.1.length (tauZ a)) := by
  obtain ⟨h1, h6⟩ := hS
  obtain ⟨p1, p2, p3⟩ := bsAt_push (f := f) hc
  have hat := tauZ_of ha0 ha
  refine ⟨fun z z0 z1 => ?_, fun j hj => ?_⟩
  · rw [(bsR_D hc z).1, (bsR_D hc z).2]
    have hz := tauZ_of z0 z1
    by_cases hza : z = a
    · rw [if_pos hza, if_pos hza, if_neg (by omega), hza, updZ_s]
    · rw [if_neg hza, if_neg hza, updZ_n]
      · exact h1 z z0 z1
      · intro e
        exact hza (tauZ_inj z0 z1 ha0 ha (by omega))
  · by_cases hj2 : j < S.1.length
    · rw [p1 j hj2, updZ_n (by omega)]
      exact h6 j hj2
    · rw [show j = S.1.length by omega, p2, updZ_s]
theorem bsAt_K (nb : Int → Int → Int) (S : BS) (f : Int) (d : Nat) {i : Nat} (h : i < S.1.length) : i < (bsK nb S f d).1.length ∧ bsAt (bsK nb S f d) i = bsAt S i := by
  have h1 := bsK_at nb S f d i _ (bsAt_some h)
  have h2 := (List.getElem?_eq_some_iff.mp h1).1
  exact ⟨h2, Option.some.inj ((bsAt_some h2).symm.trans h1)⟩
