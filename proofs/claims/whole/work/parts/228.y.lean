theorem pw_b {S rw_ : Nat → Nat} {k : Nat} (hk : k < 5) (o a : Nat) : ∀ n, pw S rw_ k o a n ≤ a * 9 ^ n
  | 0 => by show a ≤ a * 1; omega
  | n + 1 => by
    have ih := pw_b (S := S) (rw_ := rw_) hk o a n
    show pw S rw_ k o a n * tv S k (rw_ n) o ≤ a * 9 ^ (n + 1)
    rw [Nat.pow_succ, ← Nat.mul_assoc]
    exact Nat.mul_le_mul ih (tv_b hk _ _)
theorem pw_0 (S rw_ : Nat → Nat) (k o : Nat) : ∀ n, pw S rw_ k o 0 n = 0
  | 0 => rfl
  | n + 1 => by
    show pw S rw_ k o 0 n * tv S k (rw_ n) o = 0
    rw [pw_0 S rw_ k o n, Nat.zero_mul]
theorem pw_out {S rw_ : Nat → Nat} {k o a j : Nat} (h : ¬ rw_ j % 50 < 48) : ∀ n, j < n → pw S rw_ k o a n = 0
  | 0, hj => absurd hj (Nat.not_lt_zero j)
  | n + 1, hj => by
    show pw S rw_ k o a n * tv S k (rw_ n) o = 0
    by_cases e : j = n
    · subst e
      rw [show tv S k (rw_ j) o = 0 from if_neg h, Nat.mul_zero]
    · rw [pw_out h n (by omega), Nat.zero_mul]
theorem pw_sm {S rw_ w : Nat → Nat} {k n : Nat} (hs : S 0 ≤ 24) : fb_sm (fun o => pw S rw_ k o (if o < S 0 then w o else 0) n) 24 = fb_sm (fun o => pw S rw_ k o (w o) n) (S 0) := by
  rw [show 24 = S 0 + (24 - S 0) by omega, fb_sm_split, fb_z (n := 24 - S 0) (fun j hj => ?_), Nat.add_zero]
  · apply fb_sm_cong
    intro j hj
    rw [if_pos hj]
  · rw [if_neg (by omega), pw_0]
