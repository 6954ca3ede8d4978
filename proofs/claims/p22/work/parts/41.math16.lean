/-! letters of a word; the cable's squares -/
def ltZ (w k : Int) : Int := dvZ w (lenZ w - 1 - k).toNat % 7 - 1
theorem opp_sym {x y : Int} (h : oppZ x = y) : oppZ y = x := by
  unfold oppZ at *
  split at h <;> split <;> omega
theorem lt_ok {w k : Int} (h0 : 0 ≤ w) (h1 : w < 343) (hr : rdZ 3 w) (hk0 : 0 ≤ k) (hk : k < lenZ w) : 0 ≤ ltZ w k ∧ ltZ w k ≤ 5 ∧ (k ≠ 0 → oppZ (ltZ w (k - 1)) ≠ ltZ w k) := by
  have e0 : dvZ w 0 = w := rfl
  have e1 : dvZ w 1 = w / 7 := rfl
  have e2 : dvZ w 2 = w / 7 / 7 := rfl
  have hr2 : w = 0 ∨ (w % 7 ≠ 0 ∧ (w / 7 % 7 = 0 ∨ w / 7 % 7 - 1 ≠ oppZ (w % 7 - 1)) ∧ (w / 7 = 0 ∨ (w / 7 % 7 ≠ 0 ∧ (w / 7 / 7 % 7 = 0 ∨ w / 7 / 7 % 7 - 1 ≠ oppZ (w / 7 % 7 - 1)) ∧ (w / 7 / 7 = 0 ∨ (w / 7 / 7 % 7 ≠ 0 ∧ (w / 7 / 7 / 7 % 7 = 0 ∨ w / 7 / 7 / 7 % 7 - 1 ≠ oppZ (w / 7 / 7 % 7 - 1)) ∧ w / 7 / 7 / 7 = 0))))) := hr
  have hlen : (w = 0 ∧ lenZ w = 0) ∨ (w ≠ 0 ∧ w < 7 ∧ lenZ w = 1) ∨ (7 ≤ w ∧ w < 49 ∧ lenZ w = 2) ∨ (49 ≤ w ∧ lenZ w = 3) := by
    unfold lenZ
    (repeat' split) <;> omega
  have a0 : w % 7 - 1 ≤ 5 := by omega
  have a1 : w / 7 % 7 - 1 ≤ 5 := by omega
  have a2 : w / 7 / 7 % 7 - 1 ≤ 5 := by omega
  rcases hlen with ⟨-, hl⟩ | ⟨hw0, hw1, hl⟩ | ⟨hw0, hw1, hl⟩ | ⟨hw0, hl⟩
  · omega
  · have hk2 : k = 0 := by omega
    subst hk2
    unfold ltZ
    rw [hl, show (1 - 1 - (0 : Int)).toNat = 0 by decide, e0]
    exact ⟨by omega, a0, fun h => absurd rfl h⟩
  · have hn0 : w % 7 ≠ 0 := by omega
    have hn1 : w / 7 % 7 ≠ 0 := by omega
    have ho1 : w / 7 % 7 - 1 ≠ oppZ (w % 7 - 1) := by
      rcases hr2 with g | ⟨-, g | g, -⟩
      · omega
      · exact absurd g hn1
      · exact g
    rcases (show k = 0 ∨ k = 1 by omega) with rfl | rfl
    · unfold ltZ
      rw [hl, show (2 - 1 - (0 : Int)).toNat = 1 by decide, e1]
      exact ⟨by omega, a1, fun h => absurd rfl h⟩
    · unfold ltZ
      rw [hl, show (2 - 1 - (1 : Int)).toNat = 0 by decide, show (2 - 1 - ((1 : Int) - 1)).toNat = 1 by decide, e0, e1]
      exact ⟨by omega, a0, fun _ g => ho1 (opp_sym g).symm⟩
  · have hn0 : w % 7 ≠ 0 := by omega
    have hn1 : w / 7 % 7 ≠ 0 := by omega
    have hn2 : w / 7 / 7 % 7 ≠ 0 := by omega
    have ho1 : w / 7 % 7 - 1 ≠ oppZ (w % 7 - 1) := by
      rcases hr2 with g | ⟨-, g | g, -⟩
      · omega
      · exact absurd g hn1
      · exact g
    have ho2 : w / 7 / 7 % 7 - 1 ≠ oppZ (w / 7 % 7 - 1) := by
      rcases hr2 with g | ⟨-, -, g | ⟨-, g | g, -⟩⟩
      · omega
      · omega
      · exact absurd g hn2
      · exact g
    rcases (show k = 0 ∨ k = 1 ∨ k = 2 by omega) with rfl | rfl | rfl
    · unfold ltZ
      rw [hl, show (3 - 1 - (0 : Int)).toNat = 2 by decide, e2]
      exact ⟨by omega, a2, fun h => absurd rfl h⟩
    · unfold ltZ
      rw [hl, show (3 - 1 - (1 : Int)).toNat = 1 by decide, show (3 - 1 - ((1 : Int) - 1)).toNat = 2 by decide, e1, e2]
      exact ⟨by omega, a1, fun _ g => ho2 (opp_sym g).symm⟩
    · unfold ltZ
      rw [hl, show (3 - 1 - (2 : Int)).toNat = 0 by decide, show (3 - 1 - ((2 : Int) - 1)).toNat = 1 by decide, e0, e1]
      exact ⟨by omega, a0, fun _ g => ho1 (opp_sym g).symm⟩
/-- a place's square as it is told -/
def cbZ (z : Int) : Int := 10 * (z / 343 / 7) + z / 343 % 7
def byZ (d : Int) : Int := if d = 0 then -1 else if d = 1 then 10 else if d = 2 then 1 else -10
theorem byZ_i {d e : Int} (hd : 0 ≤ d ∧ d ≤ 3) (he : 0 ≤ e ∧ e ≤ 3) : (byZ d = byZ e ↔ d = e) ∧ (byZ d = 1 ∨ byZ d = -1 ∨ byZ d = 10 ∨ byZ d = -10) := by
  unfold byZ
  rcases (show d = 0 ∨ d = 1 ∨ d = 2 ∨ d = 3 by omega) with rfl | rfl | rfl | rfl <;> rcases (show e = 0 ∨ e = 1 ∨ e = 2 ∨ e = 3 by omega) with rfl | rfl | rfl | rfl <;> decide
section CBS
variable {C R np : Int} {N L : Int → Int} {gn : Nat → Int} {P : Int}
theorem cb_by (hF : FlOK C R np N gn) (hcb : CbOK C R N L P) {j : Nat} (hj : (j : Int) < L P) : cbZ (alZ C R N L P (j + 1)) - cbZ (alZ C R N L P j) = byZ (cdZ C R N L (alZ C R N L P j)) ∧ (0 ≤ cdZ C R N L (alZ C R N L P j) ∧ cdZ C R N L (alZ C R N L P j) ≤ 3) := by
  obtain ⟨hA1, hA2, hA3⟩ := hcb.2.2 j hj
  have hg := (hcb.2.1 (j + 1) (by omega)).2.1
  have e : alZ C R N L P (j + 1) = aftZ C R N (alZ C R N L P j) (cdZ C R N L (alZ C R N L P j)) := rfl
  rw [e] at hg ⊢
  refine ⟨?_, hA2, hA3⟩
  unfold cbZ byZ
  rcases aft_sq hF hA1 hA2 hA3 (by omega) with ⟨g, e1, e2⟩ | ⟨g, e1, e2⟩ | ⟨g, e1, e2⟩ | ⟨g, e1, e2⟩ <;> rw [e1, e2, g]
  · rw [if_pos rfl]; omega
  · rw [if_neg (by decide), if_pos rfl]; omega
  · rw [if_neg (by decide), if_neg (by decide), if_pos rfl]; omega
  · rw [if_neg (by decide), if_neg (by decide), if_neg (by decide)]; omega
theorem cb_b (hF : FlOK C R np N gn) (hcb : CbOK C R N L P) {j : Nat} (hj : (j : Int) ≤ L P) : 0 ≤ cbZ (alZ C R N L P j) ∧ cbZ (alZ C R N L P j) < 100 := by
  obtain ⟨h0, h1, h2, h3, -⟩ := (hcb.2.1 j hj).2
  obtain ⟨hC1, hC2, hR1, hR2, -, -, -, -⟩ := id hF
  unfold cbZ
  omega
/-- the bends that the law has counted when it has looked at j steps, by the last step's square difference -/
theorem bd_nx {j : Nat} {x la : Int} (hd : ∀ i : Nat, i ≤ j → 0 ≤ cdZ C R N L (alZ C R N L P i) ∧ cdZ C R N L (alZ C R N L P i) ≤ 3) (hla : j = 0 ∨ la = byZ (laM C R N L P j)) (hx : (x = 1 ∧ 1 < (j : Int) + 1 ∧ byZ (cdZ C R N L (alZ C R N L P j)) ≠ la) ∨ (x = 0 ∧ ¬ (1 < (j : Int) + 1 ∧ byZ (cdZ C R N L (alZ C R N L P j)) ≠ la))) :
    bdM C R N L P j + x = bdM C R N L P (j + 1) ∧ byZ (cdZ C R N L (alZ C R N L P j)) = byZ (laM C R N L P (j + 1)) := by
  refine ⟨?_, rfl⟩
  cases j with
  | zero =>
    show (0 : Int) + x = 0
    omega
  | succ i =>
    show bdN C R N L P i + x = bdN C R N L P i + (if cdZ C R N L (alZ C R N L P (i + 1)) = cdZ C R N L (alZ C R N L P i) then 0 else 1)
    have hla2 : la = byZ (cdZ C R N L (alZ C R N L P i)) := hla.elim (fun h => absurd h (by omega)) id
    have hb := (byZ_i (hd (i + 1) (Nat.le_refl _)) (hd i (by omega))).1
    rw [hla2] at hx
    by_cases hc : cdZ C R N L (alZ C R N L P (i + 1)) = cdZ C R N L (alZ C R N L P i)
    · rw [if_pos hc]
      have := hb.mpr hc
      rcases hx with ⟨-, -, g⟩ | ⟨g, -⟩
      · exact absurd this g
      · omega
    · rw [if_neg hc]
      have : ¬ byZ (cdZ C R N L (alZ C R N L P (i + 1))) = byZ (cdZ C R N L (alZ C R N L P i)) := fun g => hc (hb.mp g)
      rcases hx with ⟨g, -⟩ | ⟨-, g⟩
      · omega
      · exact absurd ⟨by omega, this⟩ g
end CBS
