/- each call: one answer, both sides -/
theorem uq_things {σ μ : Mem} (h : Rel σ μ) (x1 : Int32) : ∃ (a : Int32) (σ2 μ2 : Mem), (∀ (l : Launch) (Y : Wx), Ct l Y 0 y_O_things b_O_things 3 (some .int) 30 [.ref (adr Y 0), .int x1] σ (some (.int a)) σ2) ∧ (∀ (l : Launch) (Y : Wx), Ct l Y 1 y_M_things b_M_things 3 (some .int) 1 [.ref (adr Y 43), .int x1] μ (some (.int a)) μ2) ∧ Rel σ2 μ2 := by
  obtain ⟨a, σ', μ', q0, q1, q2, q3, q4⟩ := s_things h.1 x1
  exact ⟨a, σ', μ', fun l Y => c_O_things l Y x1 σ (a, σ') q0, fun l Y => c_M_things l Y x1 μ (a, μ') q1, h.k1 q2 q3 q4⟩
theorem uq_group {σ μ : Mem} (h : Rel σ μ) (x1 : Int32) : ∃ (a : Int32) (σ2 μ2 : Mem), (∀ (l : Launch) (Y : Wx), Ct l Y 0 y_O_group b_O_group 2 (some .int) 29 [.ref (adr Y 0), .int x1] σ (some (.int a)) σ2) ∧ (∀ (l : Launch) (Y : Wx), Ct l Y 1 y_M_group b_M_group 2 (some .int) 5 [.ref (adr Y 43), .int x1] μ (some (.int a)) μ2) ∧ Rel σ2 μ2 := by
  obtain ⟨a, σ', μ', q0, q1, q2, q3, q4⟩ := s_group h.1 x1
  exact ⟨a, σ', μ', fun l Y => c_O_group l Y x1 σ (a, σ') q0, fun l Y => c_M_group l Y x1 μ (a, μ') q1, h.k1 q2 q3 q4⟩
theorem uq_back {σ μ : Mem} (h : Rel σ μ) : ∃ (a : Int32) (σ2 μ2 : Mem), (∀ (l : Launch) (Y : Wx), Ct l Y 0 y_O_back b_O_back 1 (some .int) 30 [.ref (adr Y 0)] σ (some (.int a)) σ2) ∧ (∀ (l : Launch) (Y : Wx), Ct l Y 1 y_M_back b_M_back 1 (some .int) 0 [.ref (adr Y 43)] μ (some (.int a)) μ2) ∧ Rel σ2 μ2 := by
  obtain ⟨a, σ', μ', q0, q1, q2, q3, q4⟩ := s_back h.1
  exact ⟨a, σ', μ', fun l Y => c_O_back l Y  σ (a, σ') q0, fun l Y => c_M_back l Y  μ (a, μ') q1, h.k1 q2 q3 q4⟩
theorem uq_taken {σ μ : Mem} (h : Rel σ μ) (x1 : Int32) : ∃ (a : Int32) (σ2 μ2 : Mem), (∀ (l : Launch) (Y : Wx), Ct l Y 0 y_O_taken b_O_taken 2 (some .int) 1 [.ref (adr Y 0), .int x1] σ (some (.int a)) σ2) ∧ (∀ (l : Launch) (Y : Wx), Ct l Y 1 y_M_taken b_M_taken 2 (some .int) 4 [.ref (adr Y 43), .int x1] μ (some (.int a)) μ2) ∧ Rel σ2 μ2 := by
  obtain ⟨a, μ', q0, q1, q2, q3⟩ := s_taken h.1 x1
  exact ⟨a, σ, μ', fun l Y => c_O_taken l Y x1 σ a q0, fun l Y => c_M_taken l Y x1 μ (a, μ') q1, h.k1 q2 KC.rf q3⟩
theorem uq_reason {σ μ : Mem} (h : Rel σ μ) (x1 : Int32) : ∃ (a : Int32) (σ2 μ2 : Mem), (∀ (l : Launch) (Y : Wx), Ct l Y 0 y_O_reason b_O_reason 6 (some .int) 28 [.ref (adr Y 0), .int x1] σ (some (.int a)) σ2) ∧ (∀ (l : Launch) (Y : Wx), Ct l Y 1 y_M_reason b_M_reason 2 (some .int) 5 [.ref (adr Y 43), .int x1] μ (some (.int a)) μ2) ∧ Rel σ2 μ2 := by
  obtain ⟨a, σ', μ', q0, q1, q2, q3, q4⟩ := s_reason h.1 x1
  exact ⟨a, σ', μ', fun l Y => c_O_reason l Y x1 σ (a, σ') q0, fun l Y => c_M_reason l Y x1 μ (a, μ') q1, h.k1 q2 q3 q4⟩
theorem uq_read {σ μ : Mem} (h : Rel σ μ) (x1 : Int32) : ∃ (a : Int32) (σ2 μ2 : Mem), (∀ (l : Launch) (Y : Wx), Ct l Y 0 y_O_read b_O_read 4 (some .int) 30 [.ref (adr Y 0), .int x1] σ (some (.int a)) σ2) ∧ (∀ (l : Launch) (Y : Wx), Ct l Y 1 y_M_read b_M_read 3 (some .int) 5 [.ref (adr Y 43), .int x1] μ (some (.int a)) μ2) ∧ Rel σ2 μ2 := by
  obtain ⟨a, σ', μ', q0, q1, q2⟩ := s_read h x1
  exact ⟨a, σ', μ', fun l Y => c_O_read l Y x1 σ (a, σ') q0, fun l Y => c_M_read l Y x1 μ (a, μ') q1, q2⟩
theorem uq_many {σ μ : Mem} (h : Rel σ μ) : ∃ (a : Int64) (σ2 μ2 : Mem), (∀ (l : Launch) (Y : Wx), Ct l Y 0 y_O_many b_O_many 1 (some .long) 3 [.ref (adr Y 0)] σ (some (.long a)) σ2) ∧ (∀ (l : Launch) (Y : Wx), Ct l Y 1 y_M_many_ b_M_many_ 1 (some .long) 5 [.ref (adr Y 43)] μ (some (.long a)) μ2) ∧ Rel σ2 μ2 := by
  obtain ⟨a, μ', q0, q1, q2, q3⟩ := s_many h.1
  exact ⟨a, σ, μ', fun l Y => c_O_many l Y  σ a q0, fun l Y => c_M_many_ l Y  μ (a, μ') q1, h.k1 q2 KC.rf q3⟩
theorem uq_tree {σ μ : Mem} (h : Rel σ μ) (x1 : Int32) : ∃ (a : Int32) (σ2 μ2 : Mem), (∀ (l : Launch) (Y : Wx), Ct l Y 0 y_O_tree b_O_tree 2 (some .int) 0 [.ref (adr Y 0), .int x1] σ (some (.int a)) σ2) ∧ (∀ (l : Launch) (Y : Wx), Ct l Y 1 y_M_tree b_M_tree 2 (some .int) 8 [.ref (adr Y 43), .int x1] μ (some (.int a)) μ2) ∧ Rel σ2 μ2 := by
  obtain ⟨a, μ', q0, q1, q2, q3⟩ := s_tree h.1 x1
  exact ⟨a, σ, μ', fun l Y => c_O_tree l Y x1 σ a q0, fun l Y => c_M_tree l Y x1 μ (a, μ') q1, h.k1 q2 KC.rf q3⟩
theorem uq_node {σ μ : Mem} (h : Rel σ μ) (x1 x2 : Int32) : ∃ (a : Int32) (σ2 μ2 : Mem), (∀ (l : Launch) (Y : Wx), Ct l Y 0 y_O_node b_O_node 3 (some .int) 1 [.ref (adr Y 0), .int x1, .int x2] σ (some (.int a)) σ2) ∧ (∀ (l : Launch) (Y : Wx), Ct l Y 1 y_M_node b_M_node 3 (some .int) 8 [.ref (adr Y 43), .int x1, .int x2] μ (some (.int a)) μ2) ∧ Rel σ2 μ2 := by
  obtain ⟨a, μ', q0, q1, q2, q3⟩ := s_node h.1 x1 x2
  exact ⟨a, σ, μ', fun l Y => c_O_node l Y x1 x2 σ a q0, fun l Y => c_M_node l Y x1 x2 μ (a, μ') q1, h.k1 q2 KC.rf q3⟩
theorem uq_row {σ μ : Mem} (h : Rel σ μ) (x1 x2 : Int32) : ∃ (a : Int32) (σ2 μ2 : Mem), (∀ (l : Launch) (Y : Wx), Ct l Y 0 y_O_row b_O_row 3 (some .int) 3 [.ref (adr Y 0), .int x1, .int x2] σ (some (.int a)) σ2) ∧ (∀ (l : Launch) (Y : Wx), Ct l Y 1 y_M_row b_M_row 3 (some .int) 8 [.ref (adr Y 43), .int x1, .int x2] μ (some (.int a)) μ2) ∧ Rel σ2 μ2 := by
  obtain ⟨a, σ', μ', q0, q1, q2, q3, q4⟩ := s_row h.1 x1 x2
  exact ⟨a, σ', μ', fun l Y => c_O_row l Y x1 x2 σ (a, σ') q0, fun l Y => c_M_row l Y x1 x2 μ (a, μ') q1, h.k1 q2 q3 q4⟩
theorem uq_may {σ μ : Mem} (h : Rel σ μ) (x1 : Int32) : ∃ (a : Int32) (σ2 μ2 : Mem), (∀ (l : Launch) (Y : Wx), Ct l Y 0 y_O_may b_O_may 2 (some .int) 28 [.ref (adr Y 0), .int x1] σ (some (.int a)) σ2) ∧ (∀ (l : Launch) (Y : Wx), Ct l Y 1 y_M_may b_M_may 2 (some .int) 4 [.ref (adr Y 43), .int x1] μ (some (.int a)) μ2) ∧ Rel σ2 μ2 := by
  obtain ⟨a, σ', μ', q0, q1, q2, q3, q4⟩ := s_may h.1 x1
  exact ⟨a, σ', μ', fun l Y => c_O_may l Y x1 σ (a, σ') q0, fun l Y => c_M_may l Y x1 μ (a, μ') q1, h.k1 q2 q3 q4⟩
theorem uq_must {σ μ : Mem} (h : Rel σ μ) (x1 : Int32) : ∃ (a : Int32) (σ2 μ2 : Mem), (∀ (l : Launch) (Y : Wx), Ct l Y 0 y_O_must b_O_must 2 (some .int) 28 [.ref (adr Y 0), .int x1] σ (some (.int a)) σ2) ∧ (∀ (l : Launch) (Y : Wx), Ct l Y 1 y_M_must b_M_must 2 (some .int) 5 [.ref (adr Y 43), .int x1] μ (some (.int a)) μ2) ∧ Rel σ2 μ2 := by
  obtain ⟨a, σ', μ', q0, q1, q2, q3, q4⟩ := s_must h.1 x1
  exact ⟨a, σ', μ', fun l Y => c_O_must l Y x1 σ (a, σ') q0, fun l Y => c_M_must l Y x1 μ (a, μ') q1, h.k1 q2 q3 q4⟩
theorem uq_apart {σ μ : Mem} (h : Rel σ μ) (x1 x2 x3 : Int32) : ∃ (a : Int32) (σ2 μ2 : Mem), (∀ (l : Launch) (Y : Wx), Ct l Y 0 y_O_apart b_O_apart 4 (some .int) 3 [.ref (adr Y 0), .int x1, .int x2, .int x3] σ (some (.int a)) σ2) ∧ (∀ (l : Launch) (Y : Wx), Ct l Y 1 y_M_apart b_M_apart 4 (some .int) 6 [.ref (adr Y 43), .int x1, .int x2, .int x3] μ (some (.int a)) μ2) ∧ Rel σ2 μ2 := by
  obtain ⟨a, μ', q0, q1, q2, q3⟩ := s_apart h.1 x1 x2 x3
  exact ⟨a, σ, μ', fun l Y => c_O_apart l Y x1 x2 x3 σ a q0, fun l Y => c_M_apart l Y x1 x2 x3 μ (a, μ') q1, h.k1 q2 KC.rf q3⟩
theorem uq_spare {σ μ : Mem} (h : Rel σ μ) : ∃ (a : Int32) (σ2 μ2 : Mem), (∀ (l : Launch) (Y : Wx), Ct l Y 0 y_O_spare b_O_spare 6 (some .int) 28 [.ref (adr Y 0)] σ (some (.int a)) σ2) ∧ (∀ (l : Launch) (Y : Wx), Ct l Y 1 y_M_spare b_M_spare 1 (some .int) 5 [.ref (adr Y 43)] μ (some (.int a)) μ2) ∧ Rel σ2 μ2 := by
  obtain ⟨a, σ', μ', q0, q1, q2, q3, q4⟩ := s_spare h.1
  exact ⟨a, σ', μ', fun l Y => c_O_spare l Y  σ (a, σ') q0, fun l Y => c_M_spare l Y  μ (a, μ') q1, h.k1 q2 q3 q4⟩
theorem uq_type {σ μ : Mem} (h : Rel σ μ) (x1 : Int32) : ∃ (a : Int32) (σ2 μ2 : Mem), (∀ (l : Launch) (Y : Wx), Ct l Y 0 y_O_type b_O_type 2 (some .int) 0 [.ref (adr Y 0), .int x1] σ (some (.int a)) σ2) ∧ (∀ (l : Launch) (Y : Wx), Ct l Y 1 y_M_type b_M_type 2 (some .int) 1 [.ref (adr Y 43), .int x1] μ (some (.int a)) μ2) ∧ Rel σ2 μ2 := by
  obtain ⟨a, σ', μ', q0, q1, q2, q3, q4, q5⟩ := s_type h.1 h.2.1 x1
  exact ⟨a, σ', μ', fun l Y => c_O_type l Y x1 σ (a, σ') q0, fun l Y => c_M_type l Y x1 μ (a, μ') q1, h.k2 q2 q3 q4 q5⟩
theorem uq_wipe {σ μ : Mem} (h : Rel σ μ) : ∃ (a : Int32) (σ2 μ2 : Mem), (∀ (l : Launch) (Y : Wx), Ct l Y 0 y_O_wipe b_O_wipe 2 (some .int) 0 [.ref (adr Y 0)] σ (some (.int a)) σ2) ∧ (∀ (l : Launch) (Y : Wx), Ct l Y 1 y_M_wipe b_M_wipe 2 (some .int) 0 [.ref (adr Y 43)] μ (some (.int a)) μ2) ∧ Rel σ2 μ2 := by
  obtain ⟨a, σ', μ', q0, q1, q2, q3, q4, q5⟩ := s_wipe h.1 h.2.1
  exact ⟨a, σ', μ', fun l Y => c_O_wipe l Y  σ (a, σ') q0, fun l Y => c_M_wipe l Y  μ (a, μ') q1, h.k2 q2 q3 q4 q5⟩
theorem uq_undo {σ μ : Mem} (h : Rel σ μ) : ∃ (a : Int32) (σ2 μ2 : Mem), (∀ (l : Launch) (Y : Wx), Ct l Y 0 y_O_undo b_O_undo 1 (some .int) 0 [.ref (adr Y 0)] σ (some (.int a)) σ2) ∧ (∀ (l : Launch) (Y : Wx), Ct l Y 1 y_M_undo b_M_undo 1 (some .int) 0 [.ref (adr Y 43)] μ (some (.int a)) μ2) ∧ Rel σ2 μ2 := by
  obtain ⟨a, σ', μ', q0, q1, q2, q3, q4, q5⟩ := s_undo h.1 h.2.1
  exact ⟨a, σ', μ', fun l Y => c_O_undo l Y  σ (a, σ') q0, fun l Y => c_M_undo l Y  μ (a, μ') q1, h.k2 q2 q3 q4 q5⟩
theorem uq_fault {σ μ : Mem} (h : Rel σ μ) : ∃ (a : Int32) (σ2 μ2 : Mem), (∀ (l : Launch) (Y : Wx), Ct l Y 0 y_O_fault b_O_fault 4 (some .int) 1 [.ref (adr Y 0)] σ (some (.int a)) σ2) ∧ (∀ (l : Launch) (Y : Wx), Ct l Y 1 y_M_fault b_M_fault 1 (some .int) 3 [.ref (adr Y 43)] μ (some (.int a)) μ2) ∧ Rel σ2 μ2 := by
  obtain ⟨a, q0, q1⟩ := s_fault h.1 h.2.1
  exact ⟨a, σ, μ, fun l Y => c_O_fault l Y  σ a q0, fun l Y => c_M_fault l Y  μ a q1, h⟩
theorem uq_misses {σ μ : Mem} (h : Rel σ μ) : ∃ (a : Int32) (σ2 μ2 : Mem), (∀ (l : Launch) (Y : Wx), Ct l Y 0 y_O_misses b_O_misses 3 (some .int) 2 [.ref (adr Y 0)] σ (some (.int a)) σ2) ∧ (∀ (l : Launch) (Y : Wx), Ct l Y 1 y_M_misses b_M_misses 1 (some .int) 4 [.ref (adr Y 43)] μ (some (.int a)) μ2) ∧ Rel σ2 μ2 := by
  obtain ⟨a, σ', q0, q1, q2, q3⟩ := s_misses h.1 h.2.1
  exact ⟨a, σ', μ, fun l Y => c_O_misses l Y  σ (a, σ') q0, fun l Y => c_M_misses l Y  μ a q1, h.k1 q2 q3 KM.rf⟩
theorem uq_number {σ μ : Mem} (h : Rel σ μ) : ∃ (a : Int32) (σ2 μ2 : Mem), (∀ (l : Launch) (Y : Wx), Ct l Y 0 y_O_number b_O_number 2 (some .int) 4 [.ref (adr Y 0)] σ (some (.int a)) σ2) ∧ (∀ (l : Launch) (Y : Wx), Ct l Y 1 y_M_number b_M_number 1 (some .int) 8 [.ref (adr Y 43)] μ (some (.int a)) μ2) ∧ Rel σ2 μ2 := by
  obtain ⟨a, σ', μ', q0, q1, q2, q3, q4⟩ := s_number h.1 h.2.1
  exact ⟨a, σ', μ', fun l Y => c_O_number l Y  σ (a, σ') q0, fun l Y => c_M_number l Y  μ (a, μ') q1, h.k1 q2 q3 q4⟩
theorem uq_sheet {σ μ : Mem} (h : Rel σ μ) (x1 x2 x3 : Int32) : ∃ (a : Int32) (σ2 μ2 : Mem), (∀ (l : Launch) (Y : Wx), Ct l Y 0 y_O_sheet b_O_sheet 4 (some .int) 1 [.ref (adr Y 0), .int x1, .int x2, .int x3] σ (some (.int a)) σ2) ∧ (∀ (l : Launch) (Y : Wx), Ct l Y 1 y_M_sheet b_M_sheet 5 (some .int) 2 [.ref (adr Y 43), .int x1, .int x2, .int x3] μ (some (.int a)) μ2) ∧ Rel σ2 μ2 := by
  obtain ⟨a, σ', μ', q0, q1, q2⟩ := s_sheet h x1 x2 x3
  exact ⟨a, σ', μ', fun l Y => c_O_sheet l Y x1 x2 x3 σ (a, σ') q0, fun l Y => c_M_sheet l Y x1 x2 x3 μ (a, μ') q1, q2⟩
theorem uq_lose {σ μ : Mem} (h : Rel σ μ) (x1 : Int32) : ∃ (a : Int32) (σ2 μ2 : Mem), (∀ (l : Launch) (Y : Wx), Ct l Y 0 y_O_lose b_O_lose 3 (some .int) 1 [.ref (adr Y 0), .int x1] σ (some (.int a)) σ2) ∧ (∀ (l : Launch) (Y : Wx), Ct l Y 1 y_M_lose b_M_lose 2 (some .int) 2 [.ref (adr Y 43), .int x1] μ (some (.int a)) μ2) ∧ Rel σ2 μ2 := by
  obtain ⟨a, σ', μ', q0, q1, q2⟩ := s_lose h x1
  exact ⟨a, σ', μ', fun l Y => c_O_lose l Y x1 σ (a, σ') q0, fun l Y => c_M_lose l Y x1 μ (a, μ') q1, q2⟩
theorem uq_put {σ μ : Mem} (h : Rel σ μ) (x1 x2 x3 x4 : Int32) : ∃ (a : Int32) (σ2 μ2 : Mem), (∀ (l : Launch) (Y : Wx), Ct l Y 0 y_O_put b_O_put 6 (some .int) 2 [.ref (adr Y 0), .int x1, .int x2, .int x3, .int x4] σ (some (.int a)) σ2) ∧ (∀ (l : Launch) (Y : Wx), Ct l Y 1 y_M_put b_M_put 6 (some .int) 2 [.ref (adr Y 43), .int x1, .int x2, .int x3, .int x4] μ (some (.int a)) μ2) ∧ Rel σ2 μ2 := by
  obtain ⟨a, σ', μ', q0, q1, q2⟩ := s_put h x1 x2 x3 x4
  exact ⟨a, σ', μ', fun l Y => c_O_put l Y x1 x2 x3 x4 σ (a, σ') q0, fun l Y => c_M_put l Y x1 x2 x3 x4 μ (a, μ') q1, q2⟩
theorem uq_get {σ μ : Mem} (h : Rel σ μ) (x1 x2 x3 : Int32) : ∃ (a : Int32) (σ2 μ2 : Mem), (∀ (l : Launch) (Y : Wx), Ct l Y 0 y_O_get b_O_get 5 (some .int) 2 [.ref (adr Y 0), .int x1, .int x2, .int x3] σ (some (.int a)) σ2) ∧ (∀ (l : Launch) (Y : Wx), Ct l Y 1 y_M_get b_M_get 5 (some .int) 2 [.ref (adr Y 43), .int x1, .int x2, .int x3] μ (some (.int a)) μ2) ∧ Rel σ2 μ2 := by
  obtain ⟨a, σ', μ', q0, q1, q2⟩ := s_get h x1 x2 x3
  exact ⟨a, σ', μ', fun l Y => c_O_get l Y x1 x2 x3 σ (a, σ') q0, fun l Y => c_M_get l Y x1 x2 x3 μ (a, μ') q1, q2⟩
theorem uq_copy {σ μ : Mem} (h : Rel σ μ) (x1 x2 x3 x4 x5 : Int32) : ∃ (a : Int32) (σ2 μ2 : Mem), (∀ (l : Launch) (Y : Wx), Ct l Y 0 y_O_copy b_O_copy 6 (some .int) 2 [.ref (adr Y 0), .int x1, .int x2, .int x3, .int x4, .int x5] σ (some (.int a)) σ2) ∧ (∀ (l : Launch) (Y : Wx), Ct l Y 1 y_M_copy b_M_copy 7 (some .int) 2 [.ref (adr Y 43), .int x1, .int x2, .int x3, .int x4, .int x5] μ (some (.int a)) μ2) ∧ Rel σ2 μ2 := by
  obtain ⟨a, σ', μ', q0, q1, q2⟩ := s_copy h x1 x2 x3 x4 x5
  exact ⟨a, σ', μ', fun l Y => c_O_copy l Y x1 x2 x3 x4 x5 σ (a, σ') q0, fun l Y => c_M_copy l Y x1 x2 x3 x4 x5 μ (a, μ') q1, q2⟩
theorem uq_write {σ μ : Mem} (h : Rel σ μ) (x1 x2 : Int32) : ∃ (a : Int32) (σ2 μ2 : Mem), (∀ (l : Launch) (Y : Wx), Ct l Y 0 y_O_write b_O_write 5 (some .int) 3 [.ref (adr Y 0), .int x1, .int x2] σ (some (.int a)) σ2) ∧ (∀ (l : Launch) (Y : Wx), Ct l Y 1 y_M_write b_M_write 4 (some .int) 7 [.ref (adr Y 43), .int x1, .int x2] μ (some (.int a)) μ2) ∧ Rel σ2 μ2 := by
  obtain ⟨a, σ', μ', q0, q1, q2⟩ := s_write h x1 x2
  exact ⟨a, σ', μ', fun l Y => c_O_write l Y x1 x2 σ (a, σ') q0, fun l Y => c_M_write l Y x1 x2 μ (a, μ') q1, q2⟩
theorem uq_count {σ μ : Mem} (h : Rel σ μ) (x1 : Int32) : ∃ (a : Int32) (σ2 μ2 : Mem), (∀ (l : Launch) (Y : Wx), Ct l Y 0 y_O_count b_O_count 2 (some .int) 3 [.ref (adr Y 0), .int x1] σ (some (.int a)) σ2) ∧ (∀ (l : Launch) (Y : Wx), Ct l Y 1 y_M_count b_M_count 2 (some .int) 8 [.ref (adr Y 43), .int x1] μ (some (.int a)) μ2) ∧ Rel σ2 μ2 := by
  obtain ⟨a, μ', q0, q1, q2, q3⟩ := s_count h.1 h.2.1 h.2.2.1 x1
  exact ⟨a, σ, μ', fun l Y => c_O_count l Y x1 σ a q0, fun l Y => c_M_count l Y x1 μ (a, μ') q1, h.k1 q2 KC.rf q3⟩
theorem uq_digest {σ μ : Mem} (h : Rel σ μ) : ∃ (a : Int64) (σ2 μ2 : Mem), (∀ (l : Launch) (Y : Wx), Ct l Y 0 y_O_digest b_O_digest 8 (some .long) 29 [.ref (adr Y 0)] σ (some (.long a)) σ2) ∧ (∀ (l : Launch) (Y : Wx), Ct l Y 1 y_M_digest b_M_digest 5 (some .long) 9 [.ref (adr Y 43)] μ (some (.long a)) μ2) ∧ Rel σ2 μ2 := by
  obtain ⟨a, σ', μ', q0, q1, q2⟩ := s_digest h
  exact ⟨a, σ', μ', fun l Y => c_O_digest l Y  σ (a, σ') q0, fun l Y => c_M_digest l Y  μ (a, μ') q1, q2⟩
