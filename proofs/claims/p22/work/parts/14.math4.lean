theorem plZ_c {C R : Int} {N : Int → Int} {a b w : Int} (hR : R ≤ 7) (hw : 0 ≤ w) (h : plZ C R N a b w ≠ -1) : plZ C R N a b w / 343 / 7 = a ∧ plZ C R N a b w / 343 % 7 = b ∧ plZ C R N a b w % 343 = w ∧ w < 343 ∧ 0 ≤ a ∧ a < C ∧ 0 ≤ b ∧ b < R ∧ N (a * 7 + b) = -1 ∧ plZ C R N a b w = (a * 7 + b) * 343 + w := by
  unfold plZ at h ⊢
  split at h
  · rename_i hc
    rw [if_pos hc]
    obtain ⟨h1, h2, h3, h4, h5, h6⟩ := hc
    refine ⟨by omega, by omega, by omega, h1, h2, h3, h4, h5, h6, rfl⟩
  · exact absurd rfl h
/-- a walk of so many steps -/
def wkZ (C R : Int) (N : Int → Int) : Nat → Int → Int → Prop
  | 0, a, b => a = b
  | k + 1, a, b => ∃ d : Int, 0 ≤ d ∧ d ≤ 3 ∧ aftZ C R N a d ≠ -1 ∧ wkZ C R N k (aftZ C R N a d) b
def apZ (a b : Int) : Int := absZ (a / 343 / 7 - b / 343 / 7) + absZ (a / 343 % 7 - b / 343 % 7)
theorem aftZ_ap {C R np : Int} {N : Int → Int} {gn : Nat → Int} (hF : FlOK C R np N gn) {a b d : Int} (ha : PlOK R a) (hd0 : 0 ≤ d) (hd : d ≤ 3) (h : aftZ C R N a d ≠ -1) : apZ a b ≤ apZ (aftZ C R N a d) b + 1 := by
  obtain ⟨z1, z2, z3⟩ := ha
  have hwR := wRZ_b hF (c := a / 343 / 7) (r := a / 343 % 7) (w := a % 343) (by omega) (by omega) (by omega)
  have hwL := wLZ_b hF (c := a / 343 / 7 - 1) (r := a / 343 % 7) (w := a % 343) (by omega) (by omega) (by omega)
  obtain ⟨-, -, -, hR, -⟩ := hF
  rcases (show d = 0 ∨ d = 1 ∨ d = 2 ∨ d = 3 by omega) with rfl | rfl | rfl | rfl
  · rw [aftZ_0] at h ⊢
    obtain ⟨e1, e2, -⟩ := plZ_c hR (by omega) h
    unfold apZ absZ
    rw [e1, e2]
    (repeat' split) <;> omega
  · rw [aftZ_1] at h ⊢
    obtain ⟨e1, e2, -⟩ := plZ_c hR hwR.1 h
    unfold apZ absZ
    rw [e1, e2]
    (repeat' split) <;> omega
  · rw [aftZ_2] at h ⊢
    obtain ⟨e1, e2, -⟩ := plZ_c hR (by omega) h
    unfold apZ absZ
    rw [e1, e2]
    (repeat' split) <;> omega
  · rw [aftZ_3] at h ⊢
    obtain ⟨e1, e2, -⟩ := plZ_c hR hwL.1 h
    unfold apZ absZ
    rw [e1, e2]
    (repeat' split) <;> omega
theorem aftZ_pl {C R np : Int} {N : Int → Int} {gn : Nat → Int} (hF : FlOK C R np N gn) {a d : Int} (ha : PlOK R a) (h : aftZ C R N a d ≠ -1) : PlOK R (aftZ C R N a d) := (aftZ_ok hF ha).elim (fun z => absurd z h) id
theorem wkZ_ap {C R np : Int} {N : Int → Int} {gn : Nat → Int} (hF : FlOK C R np N gn) : ∀ (k : Nat) (a b : Int), PlOK R a → wkZ C R N k a b → apZ a b ≤ k := by
  intro k
  induction k with
  | zero =>
    intro a b ha h
    have h : a = b := h
    subst h
    unfold apZ absZ
    (repeat' split) <;> omega
  | succ k ih =>
    intro a b ha h
    obtain ⟨d, h0, h1, h2, h3⟩ := h
    have e1 := aftZ_ap hF (b := b) ha h0 h1 h2
    have e2 := ih _ b (aftZ_pl hF ha h2) h3
    omega
/-- the fewest steps, up to a number of them, of all walks to a goal that have made some steps -/
def FW (C R : Int) (N : Int → Int) (u v md mo r : Int) : Prop := r ≤ mo + 1 ∧ (u ≠ -1 → ∀ k : Nat, wkZ C R N k u v → r ≤ md + k) ∧ (r = mo + 1 ∨ (u ≠ -1 ∧ ∃ k : Nat, wkZ C R N k u v ∧ r = md + k)) ∧ (mo + 1 ≤ r ∨ md ≤ r)
theorem FW_none {C R : Int} {N : Int → Int} {u v md mo : Int} (h : u = -1) : FW C R N u v md mo (mo + 1) := ⟨Int.le_refl _, fun z => absurd h z, Or.inl rfl, Or.inl (Int.le_refl _)⟩
theorem FW_far {C R np : Int} {N : Int → Int} {gn : Nat → Int} (hF : FlOK C R np N gn) {u v md mo : Int} (hu : PlOK R u) (h : mo < md + apZ u v) : FW C R N u v md mo (mo + 1) :=
  ⟨Int.le_refl _, fun _ k hk => by have := wkZ_ap hF k u v hu hk; omega, Or.inl rfl, Or.inl (Int.le_refl _)⟩
theorem FW_here {C R : Int} {N : Int → Int} {u v md mo : Int} (h : u = v) (hu : u ≠ -1) (hm : md ≤ mo + 1) : FW C R N u v md mo md :=
  ⟨hm, fun _ k _ => by omega, Or.inr ⟨hu, 0, h, by omega⟩, Or.inr (Int.le_refl _)⟩
theorem FW_4 {C R : Int} {N : Int → Int} {u v md mo f1 f2 f3 f4 : Int} (hu : u ≠ -1) (hv : u ≠ v) (h1 : FW C R N (aftZ C R N u 0) v (md + 1) (mo + 1 - 1) f1) (h2 : FW C R N (aftZ C R N u 1) v (md + 1) (f1 - 1) f2) (h3 : FW C R N (aftZ C R N u 2) v (md + 1) (f2 - 1) f3) (h4 : FW C R N (aftZ C R N u 3) v (md + 1) (f3 - 1) f4) (hm : md ≤ mo) : FW C R N u v md mo f4 := by
  obtain ⟨a1, b1, c1, d1⟩ := h1
  obtain ⟨a2, b2, c2, d2⟩ := h2
  obtain ⟨a3, b3, c3, d3⟩ := h3
  obtain ⟨a4, b4, c4, d4⟩ := h4
  replace c1 := fun (_ : Unit) => c1
  replace c2 := fun (_ : Unit) => c2
  replace c3 := fun (_ : Unit) => c3
  replace c4 := fun (_ : Unit) => c4
  have k4 : f4 ≤ mo + 1 ∧ f4 ≤ f1 ∧ f4 ≤ f2 ∧ f4 ≤ f3 := ⟨by omega, by omega, by omega, by omega⟩
  have k5 : mo + 1 ≤ f4 ∨ md ≤ f4 := by omega
  refine ⟨k4.1, ?_, ?_, k5⟩
  · intro _ k hk
    cases k with
    | zero => exact absurd hk hv
    | succ k =>
      obtain ⟨d, g0, g1, g2, g3⟩ := hk
      have hd4 : d = 0 ∨ d = 1 ∨ d = 2 ∨ d = 3 := by omega
      have hk1 : ((k + 1 : Nat) : Int) = (k : Int) + 1 := by omega
      rw [hk1]
      rcases hd4 with rfl | rfl | rfl | rfl
      · have := b1 g2 k g3; omega
      · have := b2 g2 k g3; omega
      · have := b3 g2 k g3; omega
      · have := b4 g2 k g3; omega
  · have go : ∀ (d : Int) (k : Nat), 0 ≤ d → d ≤ 3 → aftZ C R N u d ≠ -1 → wkZ C R N k (aftZ C R N u d) v → f4 = md + 1 + k → f4 = mo + 1 ∨ (u ≠ -1 ∧ ∃ k : Nat, wkZ C R N k u v ∧ f4 = md + k) :=
      fun d k g0 g1 g2 g3 g4 => Or.inr ⟨hu, k + 1, ⟨d, g0, g1, g2, g3⟩, by omega⟩
    rcases c4 () with q4 | ⟨e4, k, g3, g4⟩
    · rcases c3 () with q3 | ⟨e3, k, g3, g4⟩
      · rcases c2 () with q2 | ⟨e2, k, g3, g4⟩
        · rcases c1 () with q1 | ⟨e1, k, g3, g4⟩
          · exact Or.inl (by omega)
          · exact go 0 k (by omega) (by omega) e1 g3 (by omega)
        · exact go 1 k (by omega) (by omega) e2 g3 (by omega)
      · exact go 2 k (by omega) (by omega) e3 g3 (by omega)
    · exact go 3 k (by omega) (by omega) e4 g3 g4
