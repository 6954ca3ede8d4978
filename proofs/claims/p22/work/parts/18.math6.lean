/-- the reference's lengths: at a place's number there -/
def MLen (L : Int → Int) (gl : Nat → Int) : Prop := (∀ z : Int, 0 ≤ z → z < 16807 → gl (tauZ z).toNat = L z) ∧ (∀ z : Int, -1 ≤ L z ∧ L z < 20000) ∧ ∀ z : Int, z < 0 ∨ 16807 ≤ z → L z = -1
theorem MLen.b {L : Int → Int} {gl : Nat → Int} (h : MLen L gl) (z : Int) : -1 ≤ L z ∧ L z < 20000 := h.2.1 z
theorem MLen.at {L : Int → Int} {gl : Nat → Int} (h : MLen L gl) {x : Int} (h0 : 0 ≤ x) (h1 : x < 16807) : gl x.toNat = L (tauZ x) := by
  have h2 := tauZ_of h0 h1
  have h3 := h.1 (tauZ x) h2.1 h2.2.1
  rw [tauZ_tauZ h0 h1] at h3
  exact h3
theorem tM_b {y : Int} (hy : y = -1 ∨ (0 ≤ y ∧ y < 16807)) : (tM y = -1 ∧ y = -1) ∨ (0 ≤ tM y ∧ tM y < 16807 ∧ 0 ≤ y ∧ y < 16807 ∧ tM y = tauZ y) := by
  unfold tM
  rcases hy with hy | ⟨h0, h1⟩
  · rw [if_pos hy]
    exact Or.inl ⟨rfl, hy⟩
  · rw [if_neg (by omega)]
    have := tauZ_of h0 h1
    exact Or.inr ⟨this.1, this.2.1, h0, h1, rfl⟩
theorem MLen.tm {L : Int → Int} {gl : Nat → Int} (h : MLen L gl) {y : Int} (hy : y = -1 ∨ (0 ≤ y ∧ y < 16807)) (hn : ¬ tM y = -1) : gl (tM y).toNat = L y := by
  rcases tM_b hy with ⟨h1, -⟩ | ⟨h0, h1, h2, h3, h4⟩
  · exact absurd h1 hn
  · rw [h4]
    exact h.1 y h2 h3
theorem tauZ_ok {R z : Int} (h0 : 0 ≤ z) (h1 : z < 16807) (h2 : z / 343 / 7 < R) : PlOK R (tauZ z) := by
  have := tauZ_of h0 h1
  exact ⟨this.1, this.2.1, by rw [this.2.2.2.1]; exact h2⟩
theorem maf_b {C R np : Int} {N : Int → Int} {gc gr : Nat → Int} (hM : MdOK C R np N gc gr) {x d : Int} (h0 : 0 ≤ x) (h1 : x < 16807) (h2 : x / 343 / 7 < R) : aftZ C R N (tauZ x) d = -1 ∨ (0 ≤ aftZ C R N (tauZ x) d ∧ aftZ C R N (tauZ x) d < 16807) := by
  rcases aftZ_ok hM.Fl (d := d) (tauZ_ok h0 h1 h2) with h | ⟨h, h', -⟩
  · exact Or.inl h
  · exact Or.inr ⟨h, h'⟩
theorem maf_0 {C R : Int} {N : Int → Int} {x : Int} (hC : C ≤ 7) (hR : R ≤ 7) (h0 : 0 ≤ x) (h1 : x < 16807) : tM (aftZ C R N (tauZ x) 0) = if x % 343 < 343 ∧ 0 ≤ x / 343 % 7 ∧ x / 343 % 7 < C ∧ 0 ≤ x / 343 / 7 - 1 ∧ x / 343 / 7 - 1 < R ∧ N (x / 343 % 7 * 7 + (x / 343 / 7 - 1)) = -1 then 343 * (7 * (x / 343 / 7 - 1) + x / 343 % 7) + x % 343 else -1 := by
  obtain ⟨-, -, e1, e2, e3, -⟩ := tauZ_of h0 h1
  rw [aftZ_0, e1, e2, e3, tM_pl hC hR (by omega)]
theorem maf_1 {C R np : Int} {N : Int → Int} {gc gr : Nat → Int} (hM : MdOK C R np N gc gr) {x : Int} (h0 : 0 ≤ x) (h1 : x < 16807) : tM (aftZ C R N (tauZ x) 1) = if wRZ N R (x / 343 % 7) (x / 343 / 7) (x % 343) < 343 ∧ 0 ≤ x / 343 % 7 + 1 ∧ x / 343 % 7 + 1 < C ∧ 0 ≤ x / 343 / 7 ∧ x / 343 / 7 < R ∧ N ((x / 343 % 7 + 1) * 7 + x / 343 / 7) = -1 then 343 * (7 * (x / 343 / 7) + (x / 343 % 7 + 1)) + wRZ N R (x / 343 % 7) (x / 343 / 7) (x % 343) else -1 := by
  obtain ⟨-, -, e1, e2, e3, -⟩ := tauZ_of h0 h1
  have hw := wRZ_b hM.Fl (c := x / 343 % 7) (r := x / 343 / 7) (w := x % 343) (by omega) (by omega) (by omega)
  rw [aftZ_1, e1, e2, e3, tM_pl hM.2.1 hM.2.2.2.1 hw.1]
theorem maf_2 {C R : Int} {N : Int → Int} {x : Int} (hC : C ≤ 7) (hR : R ≤ 7) (h0 : 0 ≤ x) (h1 : x < 16807) : tM (aftZ C R N (tauZ x) 2) = if x % 343 < 343 ∧ 0 ≤ x / 343 % 7 ∧ x / 343 % 7 < C ∧ 0 ≤ x / 343 / 7 + 1 ∧ x / 343 / 7 + 1 < R ∧ N (x / 343 % 7 * 7 + (x / 343 / 7 + 1)) = -1 then 343 * (7 * (x / 343 / 7 + 1) + x / 343 % 7) + x % 343 else -1 := by
  obtain ⟨-, -, e1, e2, e3, -⟩ := tauZ_of h0 h1
  rw [aftZ_2, e1, e2, e3, tM_pl hC hR (by omega)]
theorem maf_3 {C R np : Int} {N : Int → Int} {gc gr : Nat → Int} (hM : MdOK C R np N gc gr) {x : Int} (h0 : 0 ≤ x) (h1 : x < 16807) : tM (aftZ C R N (tauZ x) 3) = if wLZ N R (x / 343 % 7 - 1) (x / 343 / 7) (x % 343) < 343 ∧ 0 ≤ x / 343 % 7 - 1 ∧ x / 343 % 7 - 1 < C ∧ 0 ≤ x / 343 / 7 ∧ x / 343 / 7 < R ∧ N ((x / 343 % 7 - 1) * 7 + x / 343 / 7) = -1 then 343 * (7 * (x / 343 / 7) + (x / 343 % 7 - 1)) + wLZ N R (x / 343 % 7 - 1) (x / 343 / 7) (x % 343) else -1 := by
  obtain ⟨-, -, e1, e2, e3, -⟩ := tauZ_of h0 h1
  have hw := wLZ_b hM.Fl (c := x / 343 % 7 - 1) (r := x / 343 / 7) (w := x % 343) (by omega) (by omega) (by omega)
  rw [aftZ_3, e1, e2, e3, tM_pl hM.2.1 hM.2.2.2.1 hw.1]
theorem cdZ_at {C R : Int} {N L : Int → Int} {z d : Int} (h0 : 0 ≤ d) (h3 : d ≤ 3) (h1 : ¬ L z < 1) (hno : ∀ i, 0 ≤ i → i < d → L (aftZ C R N z i) ≠ L z - 1) (he : L (aftZ C R N z d) = L z - 1) : d = cdZ C R N L z := by
  unfold cdZ
  rcases (show d = 0 ∨ d = 1 ∨ d = 2 ∨ d = 3 by omega) with rfl | rfl | rfl | rfl
  · rw [if_neg h1, if_pos he]
  · rw [if_neg h1, if_neg (hno 0 (by omega) (by omega)), if_pos he]
  · rw [if_neg h1, if_neg (hno 0 (by omega) (by omega)), if_neg (hno 1 (by omega) (by omega)), if_pos he]
  · rw [if_neg h1, if_neg (hno 0 (by omega) (by omega)), if_neg (hno 1 (by omega) (by omega)), if_neg (hno 2 (by omega) (by omega)), if_pos he]
theorem cdZ_lo {C R : Int} {N L : Int → Int} {z : Int} (h1 : L z < 1) : -1 = cdZ C R N L z := by
  unfold cdZ
  rw [if_pos h1]
theorem cdZ_no {C R : Int} {N L : Int → Int} {z : Int} (h1 : ¬ L z < 1) (hno : ∀ i, 0 ≤ i → i < 4 → L (aftZ C R N z i) ≠ L z - 1) : -1 = cdZ C R N L z := by
  unfold cdZ
  rw [if_neg h1, if_neg (hno 0 (by omega) (by omega)), if_neg (hno 1 (by omega) (by omega)), if_neg (hno 2 (by omega) (by omega)), if_neg (hno 3 (by omega) (by omega))]
theorem ilt {i d : Int} (h : i < d + 1) : i < d ∨ i = d := by omega
theorem lsN_b2 {L : Int → Int} (h : ∀ z : Int, -1 ≤ L z ∧ L z < 20000) (q : Int) : ∀ n : Nat, -1 ≤ lsN L q n ∧ lsN L q n < 20000 := by
  intro n
  induction n with
  | zero => unfold lsN; omega
  | succ n ih =>
    have := h (q * 343 + n)
    unfold lsN
    split <;> assumption
