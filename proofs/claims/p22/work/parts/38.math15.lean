/-! goals: a square's least length, and the crawler's way there from the base -/
section P22G
variable {C R np : Int} {N : Int → Int} {gn : Nat → Int} {b lim : Int}
theorem LZ_nn (hF : FlOK C R np N gn) (hb : GdZ C R N (b * 343)) : ∀ z, -1 ≤ LZ C R N b z := fun z => LZ_b hF hb z
theorem ls_z (hF : FlOK C R np N gn) (hb : GdZ C R N (b * 343)) (q : Int) : lsZ (LZ C R N b) q = -1 ∨ (0 ≤ lsZ (LZ C R N b) q ∧ ∃ z, 0 ≤ LZ C R N b z ∧ LZ C R N b z = lsZ (LZ C R N b) q ∧ z / 343 = q) := by
  rcases ls_at (L := LZ C R N b) q 343 with h | ⟨w, h1, h2, h3⟩
  · exact Or.inl h
  · have h4 := LZ_b hF hb (q * 343 + w)
    have h5 : 0 ≤ LZ C R N b (q * 343 + w) := by omega
    have h6 : (q * 343 + (w : Int)) / 343 = q := by omega
    exact Or.inr ⟨by show 0 ≤ lsN _ q 343; omega, _, h5, h2, h6⟩
theorem ls_mem (hF : FlOK C R np N gn) (hb : GdZ C R N (b * 343)) {z : Int} (hz : 0 ≤ LZ C R N b z) : 0 ≤ lsZ (LZ C R N b) (z / 343) ∧ lsZ (LZ C R N b) (z / 343) ≤ LZ C R N b z := by
  have he : z / 343 * 343 + ((z % 343).toNat : Int) = z := by omega
  have h := ls_le (L := LZ C R N b) (z / 343) 343 (z % 343).toNat (by omega) (by rw [he]; omega)
  rw [he] at h
  have h2 : lsZ (LZ C R N b) (z / 343) ≠ -1 ∧ lsZ (LZ C R N b) (z / 343) ≤ LZ C R N b z := h
  rcases ls_z hF hb (z / 343) with g | ⟨g, -⟩
  · exact absurd g h2.1
  · exact ⟨g, h2.2⟩
theorem go_base (hF : FlOK C R np N gn) (hb : GdZ C R N (b * 343)) (hlim : 0 ≤ lim) {q : Int} (h0 : 0 ≤ lsZ (LZ C R N b) q) (h1 : lsZ (LZ C R N b) q ≤ lim) :
    (goX C R N b lim (b * 343) q).1 ≠ -1 ∧ (goX C R N b lim (b * 343) q).2.2.1 (goX C R N b lim (b * 343) q).1 = lsZ (LZ C R N b) q ∧ LZ C R N b (goX C R N b lim (b * 343) q).1 = lsZ (LZ C R N b) q := by
  have hz0 := LZ_0 hF hb
  obtain ⟨k, k1, k2, k3, k4⟩ := go_q hF hb (P := b * 343) (lim := lim) (by omega) (by omega) q
  have hall := go_all hF hb (P := b * 343) (lim := lim) (q := q) (by omega) (by omega)
  generalize goX C R N b lim (b * 343) q = X at *
  obtain ⟨i1, i2, i3, i4, i5, i6, i7, i8, i9⟩ := id k1
  have hreach : ∀ (n : Nat) (y : Int), LZ C R N b y = (n : Int) → (n : Int) ≤ lim → (y ∈ X.2.1 ∧ X.2.2.1 y ≤ n) ∨ ∃ f, X.2.1[k]? = some f ∧ X.2.2.1 f ≤ n := by
    intro n
    induction n with
    | zero =>
      intro y hy _
      have hyb := LZ_z hF hb hy
      rw [hyb]
      exact Or.inl ⟨List.mem_of_getElem? i2, by rw [i5.1]; exact Int.le_refl _⟩
    | succ n ih =>
      intro y hy hl
      obtain ⟨u, e, e0, e3, he, hu, huy⟩ := LZ_pa hF hb (z := y) (by omega) (fun h => by rw [h] at hy; omega)
      have hy0 := (LZ_gd hF hb (z := y) (by omega)).1
      rcases ih u (by omega) (by omega) with ⟨g1, g2⟩ | ⟨f, g1, g2⟩
      · obtain ⟨j, hj⟩ := List.getElem?_of_mem g1
        rcases Nat.lt_or_ge j k with hk | hk
        · have ha : astZ C R N (LZ C R N b) lim u e = y := by unfold astZ; rw [he, if_pos (by omega)]
          have h9 := i9 j u hj e e0 e3 (Or.inl hk) (by rw [ha]; omega)
          rw [ha] at h9
          exact Or.inl ⟨h9.1, by omega⟩
        · have hjl := (List.getElem?_eq_some_iff.mp hj).1
          have hkl : k < X.2.1.length := by omega
          have hf := bsAt_some (S := X.2) hkl
          have := i7 k j hk _ _ hf hj
          exact Or.inr ⟨_, hf, by omega⟩
      · exact Or.inr ⟨f, g1, by omega⟩
  rcases ls_z hF hb q with g | ⟨-, z, z1, z2, z3⟩
  · omega
  · have hf : ∃ f, X.2.1[k]? = some f ∧ X.2.2.1 f ≤ lsZ (LZ C R N b) q := by
      rcases hreach (LZ C R N b z).toNat z (by omega) (by omega) with ⟨g1, g2⟩ | ⟨f, g1, g2⟩
      · obtain ⟨j, hj⟩ := List.getElem?_of_mem g1
        rcases Nat.lt_or_ge j k with hk | hk
        · exact absurd z3 (k2 j z hk hj)
        · have hjl := (List.getElem?_eq_some_iff.mp hj).1
          have hkl : k < X.2.1.length := by omega
          have hf := bsAt_some (S := X.2) hkl
          have := i7 k j hk _ _ hf hj
          exact ⟨_, hf, by omega⟩
      · exact ⟨f, g1, by omega⟩
    obtain ⟨f, f1, f2⟩ := hf
    have hkl := (List.getElem?_eq_some_iff.mp f1).1
    have hln := gd_len (C := C) (R := R) (N := N) i1 (fun z hz => (i4 z hz).1)
    rcases k4 with ⟨k4, k5⟩ | ⟨k4, k5⟩
    · omega
    · rw [k4] at f1
      have f1 := Option.some.inj f1
      rw [← f1] at f2
      have hg := i4 _ (List.mem_of_getElem? k4)
      have hne : X.1 ≠ -1 := by have := hg.1.1; omega
      obtain ⟨⟨a1, -⟩, ⟨a2, a3, a4⟩, a5, a6⟩ := hall hne
      have h7 := (go_len hF hb (P := b * 343) (by omega) a6).1
      have h8 := ls_mem hF hb a3
      rw [a5] at h8
      refine ⟨hne, ?_, ?_⟩ <;> omega
theorem goal_at (hF : FlOK C R np N gn) (hb : GdZ C R N (b * 343)) {a c : Int} (hs : 0 ≤ a ∧ a < C ∧ 0 ≤ c ∧ c < R) : -1 ≤ lsZ (LZ C R N b) (a * 7 + c) ∧ (0 ≤ lsZ (LZ C R N b) (a * 7 + c) → absZ (a - b / 7) + absZ (c - b % 7) ≤ lsZ (LZ C R N b) (a * 7 + c) ∧ (lsZ (LZ C R N b) (a * 7 + c) - (absZ (a - b / 7) + absZ (c - b % 7))) % 2 = 0) ∧ (absZ (a - b / 7) + absZ (c - b % 7) = 0 → lsZ (LZ C R N b) (a * 7 + c) = 0) := by
  obtain ⟨hC1, hC2, hR1, hR2, -, -, -, -⟩ := id hF
  obtain ⟨hb0, hb1, hb2, hb3, -, -⟩ := id hb
  have hz0 := LZ_0 hF hb
  have e1 : b * 343 / 343 = b := by omega
  rw [e1] at hb2 hb3
  refine ⟨?_, ?_, ?_⟩
  · rcases ls_z hF hb (a * 7 + c) with g | ⟨g, -⟩ <;> omega
  · intro h0
    rcases ls_z hF hb (a * 7 + c) with g | ⟨-, z, z1, z2, z3⟩
    · omega
    · have h1 := LZ_far hF hb z1
      have h2 := LZ_par hF hb z1
      unfold apZ at h1
      unfold sqs at h2
      rw [e1, z3, show (a * 7 + c) / 7 = a by omega, show (a * 7 + c) % 7 = c by omega, z2] at h1 h2
      generalize lsZ (LZ C R N b) (a * 7 + c) = x at *
      generalize b / 7 = u at *
      generalize b % 7 = v at *
      clear z2 z3 hz0 e1 hb0 hb1 hb2 hb3
      unfold absZ at h1 ⊢
      (repeat' split at h1) <;> (repeat' split) <;> omega
  · intro hz
    have hab : a * 7 + c = b := by
      unfold absZ at hz
      (repeat' split at hz) <;> omega
    have h := ls_mem hF hb (z := b * 343) (by omega)
    rw [e1, hz0] at h
    rw [hab]
    omega
/-- nothing is reached outside the floor -/
theorem ls_out (hF : FlOK C R np N gn) (hb : GdZ C R N (b * 343)) {q : Int} (hq : C ≤ q / 7 ∨ R ≤ q % 7) : lsZ (LZ C R N b) q = -1 := by
  rcases ls_z hF hb q with g | ⟨-, z, z1, z2, z3⟩
  · exact g
  · have hg := LZ_gd hF hb z1
    have h1 := hg.2.2.1
    have h2 := hg.2.2.2.1
    rw [z3] at h1 h2
    omega
end P22G
/-! sums -/
def sumZ (f : Nat → Int) : Nat → Int
  | 0 => 0
  | n + 1 => sumZ f n + f n
theorem sum_ext {f g : Nat → Int} : ∀ n : Nat, (∀ k, k < n → f k = g k) → sumZ f n = sumZ g n := by
  intro n
  induction n with
  | zero => intro _; rfl
  | succ n ih =>
    intro h
    show sumZ f n + f n = sumZ g n + g n
    rw [ih (fun k hk => h k (Nat.lt_succ_of_lt hk)), h n (Nat.lt_succ_self n)]
theorem sum_add (f : Nat → Int) (m : Nat) : ∀ n : Nat, sumZ f (m + n) = sumZ f m + sumZ (fun k => f (m + k)) n := by
  intro n
  induction n with
  | zero => show sumZ f m = sumZ f m + 0; omega
  | succ n ih =>
    show sumZ f (m + n) + f (m + n) = sumZ f m + (sumZ (fun k => f (m + k)) n + f (m + n))
    rw [ih]
    omega
theorem sum_mul (f : Nat → Int) (a : Nat) : ∀ n : Nat, sumZ f (n * a) = sumZ (fun r => sumZ (fun c => f (r * a + c)) a) n := by
  intro n
  induction n with
  | zero => rw [Nat.zero_mul]; rfl
  | succ n ih =>
    rw [Nat.succ_mul, sum_add, ih]
    rfl
theorem sum_plus (f g : Nat → Int) : ∀ n : Nat, sumZ (fun k => f k + g k) n = sumZ f n + sumZ g n := by
  intro n
  induction n with
  | zero => rfl
  | succ n ih =>
    show sumZ (fun k => f k + g k) n + (f n + g n) = sumZ f n + f n + (sumZ g n + g n)
    rw [ih]
    omega
theorem sum_0 : ∀ n : Nat, sumZ (fun _ => 0) n = 0 := by
  intro n
  induction n with
  | zero => rfl
  | succ n ih => show sumZ (fun _ => 0) n + 0 = 0; rw [ih]; rfl
theorem sum_swap (f : Nat → Nat → Int) (a : Nat) : ∀ n : Nat, sumZ (fun r => sumZ (fun c => f r c) a) n = sumZ (fun c => sumZ (fun r => f r c) n) a := by
  intro n
  induction n with
  | zero => exact (sum_0 a).symm
  | succ n ih =>
    show sumZ (fun r => sumZ (fun c => f r c) a) n + sumZ (fun c => f n c) a = sumZ (fun c => sumZ (fun r => f r c) n + f n c) a
    rw [ih, sum_plus]
theorem sum_pad {f : Nat → Int} {m : Nat} : ∀ n : Nat, m ≤ n → (∀ k, m ≤ k → k < n → f k = 0) → sumZ f n = sumZ f m := by
  intro n
  induction n with
  | zero => intro h _; rw [Nat.le_zero.mp h]
  | succ n ih =>
    intro h hf
    rcases Nat.lt_or_eq_of_le h with g | g
    · show sumZ f n + f n = sumZ f m
      rw [ih (by omega) (fun k h1 h2 => hf k h1 (by omega)), hf n (by omega) (by omega)]
      omega
    · rw [g]
/-- the squares of the floor row by row, and all squares in their own order -/
theorem sum_sq (F : Nat → Int) {c r : Nat} (hc : c ≤ 7) (hr : r ≤ 7) (h0 : ∀ q, q < 49 → c ≤ q / 7 ∨ r ≤ q % 7 → F q = 0) (hc0 : 0 < c) : sumZ (fun k => F (k % c * 7 + k / c)) (r * c) = sumZ F 49 := by
  rw [sum_mul]
  rw [show sumZ F 49 = sumZ F (7 * 7) from rfl, sum_mul]
  have h1 : sumZ (fun i => sumZ (fun j => F (i * 7 + j)) 7) 7 = sumZ (fun i => sumZ (fun j => F (i * 7 + j)) r) 7 := sum_ext 7 (fun i hi => sum_pad 7 hr (fun j hj hj7 => h0 _ (by omega) (by omega)))
  have h2 : sumZ (fun i => sumZ (fun j => F (i * 7 + j)) r) 7 = sumZ (fun i => sumZ (fun j => F (i * 7 + j)) r) c := sum_pad 7 hc (fun i hi hi7 => by
    rw [sum_ext (g := fun _ => 0) r (fun j hj => h0 _ (by omega) (by omega))]
    exact sum_0 r)
  rw [h1, h2, sum_swap (fun i j => F (i * 7 + j))]
  exact sum_ext r (fun y hy => sum_ext c (fun x hx => by
    show F ((y * c + x) % c * 7 + (y * c + x) / c) = F (x * 7 + y)
    rw [show (y * c + x) % c = x by rw [Nat.mul_comm, Nat.mul_add_mod]; exact Nat.mod_eq_of_lt hx, show (y * c + x) / c = y by rw [Nat.mul_comm, Nat.mul_add_div hc0, Nat.div_eq_of_lt hx]; rfl]))
def inQ (L : Int → Int) (lim q : Int) : Int := if lsZ L q ≠ -1 ∧ lsZ L q ≤ lim then 1 else 0
theorem sqN_sum (L : Int → Int) (lim : Int) : ∀ n : Nat, sqN L lim n = sumZ (fun k => inQ L lim (k : Int)) n := by
  intro n
  induction n with
  | zero => rfl
  | succ n ih =>
    show sqN L lim n + (if lsZ L n ≠ -1 ∧ lsZ L n ≤ lim then 1 else 0) = sumZ (fun k => inQ L lim (k : Int)) n + inQ L lim (n : Int)
    rw [ih]
    rfl
/-- how many of the floor's first n squares, row by row, are within the limit -/
def sqL (L : Int → Int) (lim C : Int) : Nat → Int := sumZ (fun k => inQ L lim ((k : Int) % C * 7 + (k : Int) / C))
theorem sqL_b (L : Int → Int) (lim C : Int) : ∀ n : Nat, 0 ≤ sqL L lim C n ∧ sqL L lim C n ≤ n := by
  intro n
  induction n with
  | zero => exact ⟨Int.le_refl _, Int.le_refl _⟩
  | succ n ih =>
    have hs : sqL L lim C (n + 1) = sqL L lim C n + inQ L lim ((n : Int) % C * 7 + (n : Int) / C) := rfl
    have hi : 0 ≤ inQ L lim ((n : Int) % C * 7 + (n : Int) / C) ∧ inQ L lim ((n : Int) % C * 7 + (n : Int) / C) ≤ 1 := by unfold inQ; split <;> omega
    rw [hs]
    omega
theorem sqL_sqN {C R np : Int} {N : Int → Int} {gn : Nat → Int} {b lim : Int} (hF : FlOK C R np N gn) (hb : GdZ C R N (b * 343)) {n : Nat} (hn : (n : Int) = C * R) : sqL (LZ C R N b) lim C n = sqN (LZ C R N b) lim 49 := by
  obtain ⟨hC1, hC2, hR1, hR2, -, -, -, -⟩ := id hF
  obtain ⟨c, rfl⟩ : ∃ c : Nat, C = (c : Int) := ⟨C.toNat, by omega⟩
  obtain ⟨r, rfl⟩ : ∃ r : Nat, R = (r : Int) := ⟨R.toNat, by omega⟩
  have hn2 : n = r * c := by
    have : ((c * r : Nat) : Int) = (c : Int) * (r : Int) := Int.natCast_mul c r
    rw [← this] at hn
    rw [Nat.mul_comm r c]
    exact Int.ofNat.inj hn
  rw [sqN_sum, hn2, ← sum_sq (fun k => inQ (LZ c r N b) lim (k : Int)) (c := c) (r := r) (by omega) (by omega) (fun q hq ho => ?_) (by omega)]
  · exact sum_ext _ (fun k hk => by
      show inQ _ lim ((k : Int) % (c : Int) * 7 + (k : Int) / (c : Int)) = inQ _ lim ((k % c * 7 + k / c : Nat) : Int)
      rw [show ((k % c * 7 + k / c : Nat) : Int) = ((k % c : Nat) : Int) * 7 + ((k / c : Nat) : Int) by omega]
      rfl)
  · show inQ _ lim (q : Int) = 0
    unfold inQ
    rw [ls_out hF hb (q := (q : Int)) (by omega), if_neg (by omega)]
