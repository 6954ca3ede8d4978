/-! an int whose integer may lie outside: seen as one that does not -/
theorem iI_wrap (x : Int) : ∃ y : Int, InR y ∧ iI y = iI x ∧ (InR x → y = x) :=
  ⟨(iI x).toInt, iI_InR _, (iI_of (iI x)).symm, fun h => iI_int h⟩
theorem zv_wrap {p : Program} {l : Launch} {e : Env} {R : Room} {s : State} {m : MethodId} {args : Array Value} {below : List Frame} {meth : Method} {c : Code} {H : Heap} {locs : List Loc} {cells slots : Nat} {Q : State → Prop} {pc : Nat} {ls : Array Slot} {rest : List Value} {x : Int}
    (k : ∀ y : Int, InR y → iI y = iI x → (InR x → y = x) → W p l e R s m args below meth c H locs cells slots Q (F0 m pc ls (.int (iI y) :: rest))) : W p l e R s m args below meth c H locs cells slots Q (F0 m pc ls (.int (iI x) :: rest)) := by
  obtain ⟨y, h1, h2, h3⟩ := iI_wrap x
  rw [← h2]
  exact k y h1 h2 h3
/-- the reference's count of bends -/
def bdM (C R : Int) (N L : Int → Int) (z : Int) : Nat → Int
  | 0 => 0
  | n + 1 => bdN C R N L z n
def laM (C R : Int) (N L : Int → Int) (z : Int) : Nat → Int
  | 0 => -1
  | n + 1 => cdZ C R N L (alZ C R N L z n)
theorem bdM_a {C R : Int} {N L : Int → Int} {z : Int} {j : Nat} (hc : ∀ i : Nat, i < j → cdZ C R N L (alZ C R N L z i) ≠ -1) (h : laM C R N L z j = -1 ∨ laM C R N L z j = cdZ C R N L (alZ C R N L z j)) : bdM C R N L z j = bdN C R N L z j := by
  cases j with
  | zero => rfl
  | succ j =>
    have h1 := hc j (by omega)
    have h2 : cdZ C R N L (alZ C R N L z (j + 1)) = cdZ C R N L (alZ C R N L z j) := by
      rcases h with h | h
      · exact absurd h h1
      · exact h.symm
    show bdN C R N L z j = bdN C R N L z j + if cdZ C R N L (alZ C R N L z (j + 1)) = cdZ C R N L (alZ C R N L z j) then 0 else 1
    rw [if_pos h2]
    omega
theorem bdM_b {C R : Int} {N L : Int → Int} {z : Int} {j : Nat} (h1 : ¬ laM C R N L z j = -1) (h2 : ¬ laM C R N L z j = cdZ C R N L (alZ C R N L z j)) : bdM C R N L z j + 1 = bdN C R N L z j := by
  cases j with
  | zero => exact absurd rfl h1
  | succ j =>
    show bdN C R N L z j + 1 = bdN C R N L z j + if cdZ C R N L (alZ C R N L z (j + 1)) = cdZ C R N L (alZ C R N L z j) then 0 else 1
    rw [if_neg (fun k => h2 k.symm)]
theorem bdM_e {C R : Int} {N L : Int → Int} {z : Int} {j : Nat} (h : (j : Int) = L z) : bdM C R N L z j = bdN C R N L z (L z - 1).toNat := by
  cases j with
  | zero => rw [← h]; rfl
  | succ j => rw [show (L z - 1).toNat = j by omega]; rfl
theorem bdM_r (C R : Int) (N L : Int → Int) (z : Int) (j : Nat) : 0 ≤ bdM C R N L z j ∧ bdM C R N L z j ≤ j ∧ -1 ≤ laM C R N L z j ∧ laM C R N L z j ≤ 3 := by
  cases j with
  | zero => exact ⟨Int.le_refl 0, by show (0 : Int) ≤ 0; omega, by show (-1 : Int) ≤ -1; omega, by show (-1 : Int) ≤ 3; omega⟩
  | succ j =>
    have h1 := bdN_b C R N L z j
    have h2 := cdZ_b C R N L (alZ C R N L z j)
    exact ⟨h1.1, by show bdN C R N L z j ≤ ((j + 1 : Nat) : Int); omega, h2⟩
theorem tM_of {z : Int} (h : 0 ≤ z) : tM z = tauZ z := by
  unfold tM
  rw [if_neg (by omega)]
theorem go_fin {x : Int} (h : (tM x = -1 ∧ x = -1) ∨ (0 ≤ tM x ∧ tM x < 16807 ∧ 0 ≤ x ∧ x < 16807 ∧ tM x = tauZ x)) (hn : ¬ tM x = -1) : 343 * (tM x / 343) + tM x % 343 = tauZ x ∧ (0 ≤ tM x % 343 ∧ tM x % 343 < 343) ∧ x ≠ -1 := by
  omega
