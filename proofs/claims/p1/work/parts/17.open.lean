theorem l1_t_X5_census (N : Nat) (hN : 20000 ≤ N) (p n : Int32) : ∃ z, mX5_census N 0 (fun _ => 0) p n = some z := sorry
theorem l1_t_X6_census (N : Nat) (hN : 20000 ≤ N) (p n : Int32) : ∃ z, mX6_census N 0 0 0 0 0 (fun _ => 0) (fun _ => 0) (fun _ => 0) p n = some z := sorry
theorem l1_eq_census (N : Nat) (hN : 20000 ≤ N) {p n r t u x0 x1 x2 x3 x4 : Int32} {f0 f1 f2 f3 : Nat → Int32} (h1 : mX5_census N 0 (fun _ => 0) p n = some (r, u, f0)) (h2 : mX6_census N 0 0 0 0 0 (fun _ => 0) (fun _ => 0) (fun _ => 0) p n = some (t, x0, x1, x2, x3, x4, f1, f2, f3)) : r = t := sorry
theorem l1_t_X5_kinds (N : Nat) (hN : 20000 ≤ N) (p n : Int32) : ∃ z, mX5_kinds N 0 (fun _ => 0) p n = some z := sorry
theorem l1_t_X6_kinds (N : Nat) (hN : 20000 ≤ N) (p n : Int32) : ∃ z, mX6_kinds N 0 0 0 0 0 (fun _ => 0) (fun _ => 0) (fun _ => 0) p n = some z := sorry
theorem l1_eq_kinds (N : Nat) (hN : 20000 ≤ N) {p n r t u x0 x1 x2 x3 x4 : Int32} {f0 f1 f2 f3 : Nat → Int32} (h1 : mX5_kinds N 0 (fun _ => 0) p n = some (r, u, f0)) (h2 : mX6_kinds N 0 0 0 0 0 (fun _ => 0) (fun _ => 0) (fun _ => 0) p n = some (t, x0, x1, x2, x3, x4, f1, f2, f3)) : r = t := sorry
