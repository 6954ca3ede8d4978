/-- lengths: an array's contents as a function of places, -1 where there is none -/
def LenOK (L : Int → Int) (g : Nat → Int) : Prop := (∀ k : Nat, k < 16807 → g k = L (k : Int)) ∧ (∀ z : Int, -1 ≤ L z ∧ L z < 20000) ∧ ∀ z : Int, z < 0 ∨ 16807 ≤ z → L z = -1
theorem LenOK.g {L : Int → Int} {g : Nat → Int} (h : LenOK L g) {z : Int} (h0 : 0 ≤ z) (h1 : z < 16807) : g z.toNat = L z := by
  rw [h.1 z.toNat (by omega), Int.toNat_of_nonneg h0]
theorem LenOK.b {L : Int → Int} {g : Nat → Int} (h : LenOK L g) (z : Int) : -1 ≤ L z ∧ L z < 20000 := h.2.1 z
theorem LenOK.o {L : Int → Int} {g : Nat → Int} (h : LenOK L g) (z : Int) (hz : z < 0 ∨ 16807 ≤ z) : L z = -1 := h.2.2 z hz
/-- a place's number on the floor -/
def PlOK (R z : Int) : Prop := 0 ≤ z ∧ z < 16807 ∧ z / 343 % 7 < R
theorem plZ_b {C R : Int} {N : Int → Int} {a b w : Int} (hC : C ≤ 7) (hR : R ≤ 7) (hw : 0 ≤ w) : plZ C R N a b w = -1 ∨ PlOK R (plZ C R N a b w) := by
  unfold plZ PlOK
  split
  · right; omega
  · left; rfl
theorem aftZ_ok {C R np : Int} {N : Int → Int} {gn : Nat → Int} (hF : FlOK C R np N gn) {z d : Int} (hz : PlOK R z) : aftZ C R N z d = -1 ∨ PlOK R (aftZ C R N z d) := by
  obtain ⟨z1, z2, z3⟩ := hz
  have hwR := wRZ_b hF (c := z / 343 / 7) (r := z / 343 % 7) (w := z % 343) (by omega) (by omega) (by omega)
  have hwL := wLZ_b hF (c := z / 343 / 7 - 1) (r := z / 343 % 7) (w := z % 343) (by omega) (by omega) (by omega)
  obtain ⟨h1, h2, h3, h4, -⟩ := hF
  unfold aftZ
  split
  · exact plZ_b h2 h4 (by omega)
  · split
    · exact plZ_b h2 h4 hwR.1
    · split
      · exact plZ_b h2 h4 (by omega)
      · exact plZ_b h2 h4 hwL.1
theorem aftZ_b {C R np : Int} {N : Int → Int} {gn : Nat → Int} (hF : FlOK C R np N gn) {z d : Int} (h0 : 0 ≤ z) (h1 : z < 16807) (h2 : z / 343 % 7 < R) : -1 ≤ aftZ C R N z d ∧ aftZ C R N z d < 16807 := by
  rcases aftZ_ok hF (d := d) ⟨h0, h1, h2⟩ with h | ⟨h, h', -⟩ <;> omega
/-- a step of the crawler -/
def astZ (C R : Int) (N L : Int → Int) (lim z d : Int) : Int := if L (aftZ C R N z d) ≠ -1 ∧ L (aftZ C R N z d) ≤ lim then aftZ C R N z d else -1
/-- the direction in which the cable goes on; -1 at its end -/
def cdZ (C R : Int) (N L : Int → Int) (z : Int) : Int := if L z < 1 then -1 else if L (aftZ C R N z 0) = L z - 1 then 0 else if L (aftZ C R N z 1) = L z - 1 then 1 else if L (aftZ C R N z 2) = L z - 1 then 2 else if L (aftZ C R N z 3) = L z - 1 then 3 else -1
/-- the place behind n steps along the cable -/
def alZ (C R : Int) (N L : Int → Int) (z : Int) : Nat → Int
  | 0 => z
  | n + 1 => aftZ C R N (alZ C R N L z n) (cdZ C R N L (alZ C R N L z n))
/-- the bends among the first n + 1 steps of the cable -/
def bdN (C R : Int) (N L : Int → Int) (z : Int) : Nat → Int
  | 0 => 0
  | n + 1 => bdN C R N L z n + if cdZ C R N L (alZ C R N L z (n + 1)) = cdZ C R N L (alZ C R N L z n) then 0 else 1
/-- the least length among the first n words of a square -/
def lsN (L : Int → Int) (q : Int) : Nat → Int
  | 0 => -1
  | n + 1 => if L (q * 343 + n) ≠ -1 ∧ (lsN L q n = -1 ∨ L (q * 343 + n) < lsN L q n) then L (q * 343 + n) else lsN L q n
def lsZ (L : Int → Int) (q : Int) : Int := lsN L q 343
/-- how many of the first n words of a square are within the limit -/
def wdN (L : Int → Int) (lim q : Int) : Nat → Int
  | 0 => 0
  | n + 1 => wdN L lim q n + if L (q * 343 + n) ≠ -1 ∧ L (q * 343 + n) ≤ lim then 1 else 0
/-- how many of the first n squares are within the limit -/
def sqN (L : Int → Int) (lim : Int) : Nat → Int
  | 0 => 0
  | n + 1 => sqN L lim n + if lsZ L n ≠ -1 ∧ lsZ L n ≤ lim then 1 else 0
theorem lsN_b {L : Int → Int} {g : Nat → Int} (h : LenOK L g) (q : Int) : ∀ n : Nat, -1 ≤ lsN L q n ∧ lsN L q n < 20000 := by
  intro n
  induction n with
  | zero => unfold lsN; omega
  | succ n ih =>
    have := h.b (q * 343 + n)
    unfold lsN
    split <;> assumption
theorem lsZ_b {L : Int → Int} {g : Nat → Int} (h : LenOK L g) (q : Int) : -1 ≤ lsZ L q ∧ lsZ L q < 20000 := lsN_b h q 343
/-- the cable's first k steps can be gone -/
def AlOK (C R : Int) (N L : Int → Int) (z : Int) (k : Int) : Prop := ∀ j : Nat, (j : Int) < k → PlOK R (alZ C R N L z j) ∧ 0 ≤ cdZ C R N L (alZ C R N L z j) ∧ cdZ C R N L (alZ C R N L z j) ≤ 3
theorem cdZ_b (C R : Int) (N L : Int → Int) (z : Int) : -1 ≤ cdZ C R N L z ∧ cdZ C R N L z ≤ 3 := by
  unfold cdZ
  (repeat' split) <;> omega
