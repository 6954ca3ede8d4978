/-! what calls change: a pillar is set; the cable; letters of a word -/
def NZ (N : Int → Int) (q k : Int) : Int → Int := fun z => if z = q then k else N z
theorem FlOK_set {C R np : Int} {N : Int → Int} {gn : Nat → Int} (h : FlOK C R np N gn) {q : Int} (hn : np < 3) (h0 : 0 ≤ q) (h1 : q < 49) : FlOK C R (np + 1) (NZ N q np) (updZ gn q.toNat np) := by
  obtain ⟨a1, a2, a3, a4, a5, a6, a7, a8⟩ := h
  refine ⟨a1, a2, a3, a4, by omega, by omega, fun k hk => ?_, fun z => ?_⟩
  · unfold NZ
    by_cases hkq : (k : Int) = q
    · rw [if_pos hkq, show k = q.toNat by omega, updZ_s]
    · rw [if_neg hkq, updZ_n (by omega)]
      exact a7 k hk
  · unfold NZ
    by_cases hz : z = q
    · rw [if_pos hz]; exact Or.inr (by omega)
    · rw [if_neg hz]
      have := a8 z
      omega
theorem MdOK_set {C R np : Int} {N : Int → Int} {gc gr : Nat → Int} (h : MdOK C R np N gc gr) {a b : Int} (hn : np < 3) (ha0 : 0 ≤ a) (ha : a < C) (hb0 : 0 ≤ b) (hb : b < R) (hN : N (a * 7 + b) = -1) : MdOK C R (np + 1) (NZ N (a * 7 + b) np) (updZ gc np.toNat a) (updZ gr np.toNat b) := by
  obtain ⟨a1, a2, a3, a4, a5, a6, a7, a8⟩ := h
  refine ⟨a1, a2, a3, a4, by omega, by omega, fun k hk => ?_, fun z => ?_⟩
  · by_cases hkn : (k : Int) = np
    · rw [show k = np.toNat by omega, updZ_s, updZ_s]
      unfold NZ
      rw [if_pos rfl]
      omega
    · rw [updZ_n (by omega), updZ_n (by omega)]
      obtain ⟨k1, k2, k3, k4, k5⟩ := a7 k (by omega)
      refine ⟨k1, k2, k3, k4, ?_⟩
      unfold NZ
      rw [if_neg]
      · exact k5
      · intro e
        rw [e] at k5
        omega
  · unfold NZ
    by_cases hz : z = a * 7 + b
    · rw [if_pos hz, updZ_s, updZ_s]; exact Or.inr (by omega)
    · rw [if_neg hz]
      rcases a8 z with g | ⟨g1, g2, g3⟩
      · exact Or.inl g
      · refine Or.inr ⟨g1, by omega, ?_⟩
        rw [updZ_n (by omega), updZ_n (by omega)]
        exact g3
theorem GdZ_set {C R : Int} {N : Int → Int} {z q k : Int} (h : GdZ C R N z) (hq : z / 343 ≠ q) : GdZ C R (NZ N q k) z := by
  obtain ⟨h1, h2, h3, h4, h5, h6⟩ := h
  refine ⟨h1, h2, h3, h4, ?_, h6⟩
  unfold NZ
  rw [if_neg hq]
  exact h5
theorem GdZ_mk {C R : Int} {N : Int → Int} (hC : C ≤ 7) (hR : R ≤ 7) {a b : Int} (ha0 : 0 ≤ a) (ha : a < C) (hb0 : 0 ≤ b) (hb : b < R) (hN : N (a * 7 + b) = -1) : GdZ C R N ((a * 7 + b) * 343) := by
  refine ⟨by omega, by omega, by omega, by omega, ?_, ?_⟩
  · rw [show (a * 7 + b) * 343 / 343 = a * 7 + b by omega]; exact hN
  · rw [show (a * 7 + b) * 343 % 343 = 0 by omega]; exact Or.inl rfl
theorem MdOK_0 {C R : Int} (hC : 3 ≤ C ∧ C ≤ 7) (hR : 3 ≤ R ∧ R ≤ 7) {gc gr : Nat → Int} : MdOK C R 0 (fun _ => -1) gc gr := ⟨hC.1, hC.2, hR.1, hR.2, by omega, by omega, fun k hk => absurd hk (by omega), fun _ => Or.inl rfl⟩
theorem FlOK_0 {C R : Int} (hC : 3 ≤ C ∧ C ≤ 7) (hR : 3 ≤ R ∧ R ≤ 7) {gn : Nat → Int} (h : ∀ k : Nat, k < 49 → gn k = -1) : FlOK C R 0 (fun _ => -1) gn := ⟨hC.1, hC.2, hR.1, hR.2, by omega, by omega, fun k hk => h k hk, fun _ => Or.inl rfl⟩
/-- bounded -/
def clZ (a b d : Int) : Int := if a < b then b else if d < a then d else a
theorem clZ_b {a b d : Int} (h : b ≤ d) : b ≤ clZ a b d ∧ clZ a b d ≤ d := by
  unfold clZ
  (repeat' split) <;> omega
theorem btZ {a b d : Int} (h : a ≤ d) : (if a < (if d < b then d else b) then (if d < b then d else b) else a) = clZ b a d := by
  unfold clZ
  (repeat' split) <;> omega
/-- the cable of a place can be gone -/
def CbOK (C R : Int) (N L : Int → Int) (P : Int) : Prop := 0 ≤ L P ∧ (∀ j : Nat, (j : Int) ≤ L P → L (alZ C R N L P j) = L P - j ∧ GdZ C R N (alZ C R N L P j)) ∧ AlOK C R N L P (L P)
theorem cb_ok {C R np : Int} {N : Int → Int} {gn : Nat → Int} {b P : Int} (hF : FlOK C R np N gn) (hb : GdZ C R N (b * 343)) (hP : 0 ≤ LZ C R N b P) : CbOK C R N (LZ C R N b) P :=
  ⟨hP, fun j hj => ⟨al_L hF hb hP j hj, al_gd hF hb hP hj⟩, al_ok hF hb hP (Int.le_refl _)⟩
/-- a word's number after its last n letters are taken off -/
def dvZ (w : Int) : Nat → Int
  | 0 => w
  | n + 1 => dvZ w n / 7
theorem dvZ_b {w : Int} (h0 : 0 ≤ w) (h1 : w < 343) : ∀ n : Nat, 0 ≤ dvZ w n ∧ dvZ w n < 343 := by
  intro n
  induction n with
  | zero => exact ⟨h0, h1⟩
  | succ n ih => show 0 ≤ dvZ w n / 7 ∧ dvZ w n / 7 < 343; omega
theorem lenZ_b (w : Int) : 0 ≤ lenZ w ∧ lenZ w ≤ 3 := by
  unfold lenZ
  (repeat' split) <;> omega
theorem wdN_b (L : Int → Int) (lim q : Int) : ∀ n : Nat, 0 ≤ wdN L lim q n ∧ wdN L lim q n ≤ n := by
  intro n
  induction n with
  | zero => unfold wdN; omega
  | succ n ih => unfold wdN; split <;> omega
theorem sqN_b (L : Int → Int) (lim : Int) : ∀ n : Nat, 0 ≤ sqN L lim n ∧ sqN L lim n ≤ n := by
  intro n
  induction n with
  | zero => unfold sqN; omega
  | succ n ih => unfold sqN; split <;> omega
/-- how many of the first n squares, in the reference's order -/
def sqM (L : Int → Int) (lim : Int) : Nat → Int
  | 0 => 0
  | n + 1 => sqM L lim n + if lsZ L ((n : Int) % 7 * 7 + (n : Int) / 7) ≠ -1 ∧ lsZ L ((n : Int) % 7 * 7 + (n : Int) / 7) ≤ lim then 1 else 0
theorem sqM_sqN (L : Int → Int) (lim : Int) : sqM L lim 49 = sqN L lim 49 := by
  have hf : ∃ f : Int → Int, ∀ q, (if lsZ L q ≠ -1 ∧ lsZ L q ≤ lim then (1 : Int) else 0) = f q := ⟨_, fun _ => rfl⟩
  obtain ⟨f, hf⟩ := hf
  simp only [sqM, sqN, hf]
  simp
  omega
theorem bdN_b (C R : Int) (N L : Int → Int) (z : Int) : ∀ n : Nat, 0 ≤ bdN C R N L z n ∧ bdN C R N L z n ≤ n := by
  intro n
  induction n with
  | zero => unfold bdN; omega
  | succ n ih => unfold bdN; split <;> omega
