/-! places in rows, without wrapping -/
theorem w32n {n : Nat} (h : n < 2147483648) : w32 (n : Int) = n := w32_id (nat31 h)
theorem ix8a {u v : Nat} (h0 : u < 16) (h1 : v < 8) : w32 (w32 ((u : Int) * 8) + (v : Int)) = ((8 * u + v : Nat) : Int) := by
  rw [w32_id (x := (u : Int) * 8) (by unfold in32; omega), w32_id (by unfold in32; omega)]; omega
theorem ix8b {u v : Nat} (h0 : u < 16) (h1 : v < 8) : w32 (w32 (8 * (u : Int)) + (v : Int)) = ((8 * u + v : Nat) : Int) := by
  rw [w32_id (x := 8 * (u : Int)) (by unfold in32; omega), w32_id (by unfold in32; omega)]; omega
theorem ix4_0 {v : Nat} (h0 : v < 100) : w32 (w32 ((v : Int) * 4) + 0) = ((4 * v : Nat) : Int) := by
  rw [w32_id (x := (v : Int) * 4) (by unfold in32; omega), w32_id (by unfold in32; omega)]; omega
theorem ix4_1 {v : Nat} (h0 : v < 100) : w32 (w32 ((v : Int) * 4) + 1) = ((4 * v + 1 : Nat) : Int) := by
  rw [w32_id (x := (v : Int) * 4) (by unfold in32; omega), w32_id (by unfold in32; omega)]; omega
theorem ix4_2 {v : Nat} (h0 : v < 100) : w32 (w32 ((v : Int) * 4) + 2) = ((4 * v + 2 : Nat) : Int) := by
  rw [w32_id (x := (v : Int) * 4) (by unfold in32; omega), w32_id (by unfold in32; omega)]; omega
theorem ix4_3 {v : Nat} (h0 : v < 100) : w32 (w32 ((v : Int) * 4) + 3) = ((4 * v + 3 : Nat) : Int) := by
  rw [w32_id (x := (v : Int) * 4) (by unfold in32; omega), w32_id (by unfold in32; omega)]; omega
theorem ix5_0 {u : Nat} (h0 : u < 100) : w32 (w32 ((u : Int) * 5) + 0) = ((5 * u : Nat) : Int) := by
  rw [w32_id (x := (u : Int) * 5) (by unfold in32; omega), w32_id (by unfold in32; omega)]; omega
theorem ix5_1 {u : Nat} (h0 : u < 100) : w32 (w32 ((u : Int) * 5) + 1) = ((5 * u + 1 : Nat) : Int) := by
  rw [w32_id (x := (u : Int) * 5) (by unfold in32; omega), w32_id (by unfold in32; omega)]; omega
theorem ix5_2 {u : Nat} (h0 : u < 100) : w32 (w32 ((u : Int) * 5) + 2) = ((5 * u + 2 : Nat) : Int) := by
  rw [w32_id (x := (u : Int) * 5) (by unfold in32; omega), w32_id (by unfold in32; omega)]; omega
theorem ix5_3 {u : Nat} (h0 : u < 100) : w32 (w32 ((u : Int) * 5) + 3) = ((5 * u + 3 : Nat) : Int) := by
  rw [w32_id (x := (u : Int) * 5) (by unfold in32; omega), w32_id (by unfold in32; omega)]; omega
theorem ix5_4 {u : Nat} (h0 : u < 100) : w32 (w32 ((u : Int) * 5) + 4) = ((5 * u + 4 : Nat) : Int) := by
  rw [w32_id (x := (u : Int) * 5) (by unfold in32; omega), w32_id (by unfold in32; omega)]; omega
theorem ix5v {u x : Nat} (h0 : u < 100) (h1 : x < 100) : w32 (w32 ((u : Int) * 5) + (x : Int)) = ((5 * u + x : Nat) : Int) := by
  rw [w32_id (x := (u : Int) * 5) (by unfold in32; omega), w32_id (by unfold in32; omega)]; omega
theorem ixu {u : Nat} (h0 : u < 100) : w32 (29 + w32 (5 * (u : Int))) = ((29 + 5 * u : Nat) : Int) := by
  rw [w32_id (x := 5 * (u : Int)) (by unfold in32; omega), w32_id (by unfold in32; omega)]; omega
theorem ixu_1 {u : Nat} (h0 : u < 100) : w32 (w32 (29 + w32 (5 * (u : Int))) + 1) = ((30 + 5 * u : Nat) : Int) := by
  rw [ixu h0, w32_id (by unfold in32; omega)]; omega
theorem ixu_2 {u : Nat} (h0 : u < 100) : w32 (w32 (29 + w32 (5 * (u : Int))) + 2) = ((31 + 5 * u : Nat) : Int) := by
  rw [ixu h0, w32_id (by unfold in32; omega)]; omega
theorem ixu_3 {u : Nat} (h0 : u < 100) : w32 (w32 (29 + w32 (5 * (u : Int))) + 3) = ((32 + 5 * u : Nat) : Int) := by
  rw [ixu h0, w32_id (by unfold in32; omega)]; omega
theorem ixu_4 {u : Nat} (h0 : u < 100) : w32 (w32 (29 + w32 (5 * (u : Int))) + 4) = ((33 + 5 * u : Nat) : Int) := by
  rw [ixu h0, w32_id (by unfold in32; omega)]; omega
theorem ixw {v : Nat} (h0 : v < 100) : w32 (109 + w32 (4 * (v : Int))) = ((109 + 4 * v : Nat) : Int) := by
  rw [w32_id (x := 4 * (v : Int)) (by unfold in32; omega), w32_id (by unfold in32; omega)]; omega
theorem ixw_1 {v : Nat} (h0 : v < 100) : w32 (w32 (109 + w32 (4 * (v : Int))) + 1) = ((110 + 4 * v : Nat) : Int) := by
  rw [ixw h0, w32_id (by unfold in32; omega)]; omega
theorem ixw_2 {v : Nat} (h0 : v < 100) : w32 (w32 (109 + w32 (4 * (v : Int))) + 2) = ((111 + 4 * v : Nat) : Int) := by
  rw [ixw h0, w32_id (by unfold in32; omega)]; omega
theorem ixw_3 {v : Nat} (h0 : v < 100) : w32 (w32 (109 + w32 (4 * (v : Int))) + 3) = ((112 + 4 * v : Nat) : Int) := by
  rw [ixw h0, w32_id (by unfold in32; omega)]; omega
theorem ixa_7 {k : Nat} (h0 : k < 1000) : w32 (7 + (k : Int)) = ((7 + k : Nat) : Int) := by
  rw [w32_id (by unfold in32; omega)]; omega
theorem ixa_15 {k : Nat} (h0 : k < 1000) : w32 (15 + (k : Int)) = ((15 + k : Nat) : Int) := by
  rw [w32_id (by unfold in32; omega)]; omega
theorem ixa_23 {k : Nat} (h0 : k < 1000) : w32 (23 + (k : Int)) = ((23 + k : Nat) : Int) := by
  rw [w32_id (by unfold in32; omega)]; omega
theorem ixa_141 {k : Nat} (h0 : k < 1000) : w32 (141 + (k : Int)) = ((141 + k : Nat) : Int) := by
  rw [w32_id (by unfold in32; omega)]; omega
theorem ixp_141 {a b : Nat} (h0 : a < 8) (h1 : b < 8) : w32 (w32 (141 + w32 (8 * (a : Int))) + (b : Int)) = ((141 + (8 * a + b) : Nat) : Int) := by
  rw [w32_id (x := 8 * (a : Int)) (by unfold in32; omega), w32_id (x := 141 + 8 * (a : Int)) (by unfold in32; omega), w32_id (by unfold in32; omega)]; omega
theorem ixa_205 {k : Nat} (h0 : k < 1000) : w32 (205 + (k : Int)) = ((205 + k : Nat) : Int) := by
  rw [w32_id (by unfold in32; omega)]; omega
theorem ixp_205 {a b : Nat} (h0 : a < 8) (h1 : b < 8) : w32 (w32 (205 + w32 (8 * (a : Int))) + (b : Int)) = ((205 + (8 * a + b) : Nat) : Int) := by
  rw [w32_id (x := 8 * (a : Int)) (by unfold in32; omega), w32_id (x := 205 + 8 * (a : Int)) (by unfold in32; omega), w32_id (by unfold in32; omega)]; omega
theorem ixa_269 {k : Nat} (h0 : k < 1000) : w32 (269 + (k : Int)) = ((269 + k : Nat) : Int) := by
  rw [w32_id (by unfold in32; omega)]; omega
theorem ixp_269 {a b : Nat} (h0 : a < 8) (h1 : b < 8) : w32 (w32 (269 + w32 (8 * (a : Int))) + (b : Int)) = ((269 + (8 * a + b) : Nat) : Int) := by
  rw [w32_id (x := 8 * (a : Int)) (by unfold in32; omega), w32_id (x := 269 + 8 * (a : Int)) (by unfold in32; omega), w32_id (by unfold in32; omega)]; omega
theorem ixs {k : Nat} (h0 : k < 2000000000) : w32 ((k : Int) + 1) = ((k + 1 : Nat) : Int) := by
  rw [w32_id (by unfold in32; omega)]; omega
