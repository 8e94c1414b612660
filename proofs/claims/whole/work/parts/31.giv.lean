-- ===== givings: where they lie, what both sides hold of them
theorem chkK_eq {a : Int} {k : Nat} {P : Prop} (h : sK a = k) : chkK a k P = P := propext ⟨fun q => (chkK_e q).2, chkK_i h⟩
theorem inb_eq {i n : Int} {P : Prop} (h0 : 0 ≤ i) (h1 : i < n) : inb i n P = P := propext ⟨fun q => (inb_e q).2, inb_i h0 h1⟩
theorem boolP_eq {v : Int} {P : Prop} (h : v = 0 ∨ v = 1) : boolP v P = P := propext ⟨fun q => (boolP_e q).2, boolP_i h⟩
theorem nzP_eq {v : Int} {P : Prop} (h : ¬ v = 0) : nzP v P = P := propext ⟨fun q => (nzP_e q).2, nzP_i h⟩
theorem cpP_eq {s d n a b : Int} {P : Prop} (h : 0 ≤ s ∧ 0 ≤ d ∧ 0 ≤ n ∧ s + n ≤ a ∧ d + n ≤ b) : cpP s d n a b P = P := propext ⟨fun q => q.2, fun q => ⟨h, q⟩⟩
theorem b0e {P Q : Prop} : (((0 : Int) = 0 → P) ∧ (¬ (0 : Int) = 0 → Q)) = P := propext ⟨fun q => q.1 rfl, br0⟩
theorem b1e {P Q : Prop} : (((1 : Int) = 0 → P) ∧ (¬ (1 : Int) = 0 → Q)) = Q := propext ⟨fun q => q.2 (by decide), br1⟩
theorem brT {c P Q : Prop} (h : c) : ((c → P) ∧ (¬ c → Q)) = P := propext ⟨fun q => q.1 h, fun p => ⟨fun _ => p, fun z => absurd h z⟩⟩
theorem brF {c P Q : Prop} (h : ¬ c) : ((c → P) ∧ (¬ c → Q)) = Q := propext ⟨fun q => q.2 h, fun p => ⟨fun z => absurd z h, fun _ => p⟩⟩
theorem gF1 : ∀ g : Fin 6, (sK (4 + 43 * (g.val : Int)) = 3 ∧ sK (5 + 43 * (g.val : Int)) = 100 ∧ sN (5 + 43 * (g.val : Int)) = 8 ∧ sK (6 + 43 * (g.val : Int)) = 100 ∧ sN (6 + 43 * (g.val : Int)) = 7 ∧ sK (7 + 43 * (g.val : Int)) = 100 ∧ sN (7 + 43 * (g.val : Int)) = 7) ∧ (sK (8 + 43 * (g.val : Int)) = 106 ∧ sN (8 + 43 * (g.val : Int)) = 7 ∧ sK (16 + 43 * (g.val : Int)) = 106 ∧ sN (16 + 43 * (g.val : Int)) = 7 ∧ sK (24 + 43 * (g.val : Int)) = 106 ∧ sN (24 + 43 * (g.val : Int)) = 7 ∧ sK (32 + 43 * (g.val : Int)) = 105 ∧ sN (32 + 43 * (g.val : Int)) = 7) ∧
    (ptr (4 + 43 * (g.val : Int)) 3 = 5 + 43 * (g.val : Int) ∧ ptr (4 + 43 * (g.val : Int)) 4 = 6 + 43 * (g.val : Int) ∧ ptr (4 + 43 * (g.val : Int)) 5 = 7 + 43 * (g.val : Int) ∧ ptr (4 + 43 * (g.val : Int)) 6 = 8 + 43 * (g.val : Int) ∧ ptr (4 + 43 * (g.val : Int)) 7 = 16 + 43 * (g.val : Int) ∧ ptr (4 + 43 * (g.val : Int)) 8 = 24 + 43 * (g.val : Int) ∧ ptr (4 + 43 * (g.val : Int)) 9 = 32 + 43 * (g.val : Int)) := by decide +kernel
theorem gF2 : ∀ g : Fin 6, ∀ p : Fin 7, (sK (9 + 43 * (g.val : Int) + p.val) = 100 ∧ sN (9 + 43 * (g.val : Int) + p.val) = 8 ∧ sK (17 + 43 * (g.val : Int) + p.val) = 100 ∧ sN (17 + 43 * (g.val : Int) + p.val) = 8 ∧ sK (25 + 43 * (g.val : Int) + p.val) = 100 ∧ sN (25 + 43 * (g.val : Int) + p.val) = 8) ∧
    (ptr (8 + 43 * (g.val : Int)) p.val = 9 + 43 * (g.val : Int) + p.val ∧ ptr (16 + 43 * (g.val : Int)) p.val = 17 + 43 * (g.val : Int) + p.val ∧ ptr (24 + 43 * (g.val : Int)) p.val = 25 + 43 * (g.val : Int) + p.val) ∧
    (ptr (32 + 43 * (g.val : Int)) p.val = 33 + 43 * (g.val : Int) + 2 * p.val ∧ sK (33 + 43 * (g.val : Int) + 2 * p.val) = 7 ∧ ptr (33 + 43 * (g.val : Int) + 2 * p.val) 0 = 34 + 43 * (g.val : Int) + 2 * p.val ∧ sK (34 + 43 * (g.val : Int) + 2 * p.val) = 101 ∧ sN (34 + 43 * (g.val : Int) + 2 * p.val) = 56) := by decide +kernel
theorem gF3 : ∀ g : Fin 5, ptr 3 (g.val : Int) = 4 + 43 * (g.val : Int) := by decide +kernel
theorem gF {g : Int} (h0 : 0 ≤ g) (h5 : g ≤ 5) : (sK (4 + 43 * g) = 3 ∧ sK (5 + 43 * g) = 100 ∧ sN (5 + 43 * g) = 8 ∧ sK (6 + 43 * g) = 100 ∧ sN (6 + 43 * g) = 7 ∧ sK (7 + 43 * g) = 100 ∧ sN (7 + 43 * g) = 7) ∧ (sK (8 + 43 * g) = 106 ∧ sN (8 + 43 * g) = 7 ∧ sK (16 + 43 * g) = 106 ∧ sN (16 + 43 * g) = 7 ∧ sK (24 + 43 * g) = 106 ∧ sN (24 + 43 * g) = 7 ∧ sK (32 + 43 * g) = 105 ∧ sN (32 + 43 * g) = 7) ∧
    (ptr (4 + 43 * g) 3 = 5 + 43 * g ∧ ptr (4 + 43 * g) 4 = 6 + 43 * g ∧ ptr (4 + 43 * g) 5 = 7 + 43 * g ∧ ptr (4 + 43 * g) 6 = 8 + 43 * g ∧ ptr (4 + 43 * g) 7 = 16 + 43 * g ∧ ptr (4 + 43 * g) 8 = 24 + 43 * g ∧ ptr (4 + 43 * g) 9 = 32 + 43 * g) := by
  obtain ⟨n, rfl⟩ := Int.eq_ofNat_of_zero_le h0
  exact gF1 ⟨n, by omega⟩
theorem gR {g p : Int} (h0 : 0 ≤ g) (h5 : g ≤ 5) (p0 : 0 ≤ p) (p7 : p < 7) : (sK (9 + 43 * g + p) = 100 ∧ sN (9 + 43 * g + p) = 8 ∧ sK (17 + 43 * g + p) = 100 ∧ sN (17 + 43 * g + p) = 8 ∧ sK (25 + 43 * g + p) = 100 ∧ sN (25 + 43 * g + p) = 8) ∧
    (ptr (8 + 43 * g) p = 9 + 43 * g + p ∧ ptr (16 + 43 * g) p = 17 + 43 * g + p ∧ ptr (24 + 43 * g) p = 25 + 43 * g + p) ∧
    (ptr (32 + 43 * g) p = 33 + 43 * g + 2 * p ∧ sK (33 + 43 * g + 2 * p) = 7 ∧ ptr (33 + 43 * g + 2 * p) 0 = 34 + 43 * g + 2 * p ∧ sK (34 + 43 * g + 2 * p) = 101 ∧ sN (34 + 43 * g + 2 * p) = 56) := by
  obtain ⟨n, rfl⟩ := Int.eq_ofNat_of_zero_le h0
  obtain ⟨m, rfl⟩ := Int.eq_ofNat_of_zero_le p0
  exact gF2 ⟨n, by omega⟩ ⟨m, by omega⟩
theorem pt3 {g : Int} (h0 : 0 ≤ g) (h5 : g < 5) : ptr 3 g = 4 + 43 * g := by
  obtain ⟨n, rfl⟩ := Int.eq_ofNat_of_zero_le h0
  exact gF3 ⟨n, by omega⟩
theorem ck_g {g : Int} {P : Prop} (h0 : 0 ≤ g) (h5 : g ≤ 5) : chkK (4 + 43 * g) 3 P = P := chkK_eq (gF h0 h5).1.1
theorem ck_am {g : Int} {P : Prop} (h0 : 0 ≤ g) (h5 : g ≤ 5) : chkK (5 + 43 * g) 100 P = P := chkK_eq (gF h0 h5).1.2.1
theorem ck_he {g : Int} {P : Prop} (h0 : 0 ≤ g) (h5 : g ≤ 5) : chkK (6 + 43 * g) 100 P = P := chkK_eq (gF h0 h5).1.2.2.2.1
theorem ck_sz {g : Int} {P : Prop} (h0 : 0 ≤ g) (h5 : g ≤ 5) : chkK (7 + 43 * g) 100 P = P := chkK_eq (gF h0 h5).1.2.2.2.2.2.1
theorem ck_ls {g : Int} {P : Prop} (h0 : 0 ≤ g) (h5 : g ≤ 5) : chkK (8 + 43 * g) 106 P = P := chkK_eq (gF h0 h5).2.1.1
theorem ck_lv {g : Int} {P : Prop} (h0 : 0 ≤ g) (h5 : g ≤ 5) : chkK (16 + 43 * g) 106 P = P := chkK_eq (gF h0 h5).2.1.2.2.1
theorem ck_pa {g : Int} {P : Prop} (h0 : 0 ≤ g) (h5 : g ≤ 5) : chkK (24 + 43 * g) 106 P = P := chkK_eq (gF h0 h5).2.1.2.2.2.2.1
theorem ck_kn {g : Int} {P : Prop} (h0 : 0 ≤ g) (h5 : g ≤ 5) : chkK (32 + 43 * g) 105 P = P := chkK_eq (gF h0 h5).2.1.2.2.2.2.2.2.1
theorem sn_am {g : Int} (h0 : 0 ≤ g) (h5 : g ≤ 5) : sN (5 + 43 * g) = 8 := (gF h0 h5).1.2.2.1
theorem sn_he {g : Int} (h0 : 0 ≤ g) (h5 : g ≤ 5) : sN (6 + 43 * g) = 7 := (gF h0 h5).1.2.2.2.2.1
theorem sn_sz {g : Int} (h0 : 0 ≤ g) (h5 : g ≤ 5) : sN (7 + 43 * g) = 7 := (gF h0 h5).1.2.2.2.2.2.2
theorem sn_ls {g : Int} (h0 : 0 ≤ g) (h5 : g ≤ 5) : sN (8 + 43 * g) = 7 := (gF h0 h5).2.1.2.1
theorem sn_lv {g : Int} (h0 : 0 ≤ g) (h5 : g ≤ 5) : sN (16 + 43 * g) = 7 := (gF h0 h5).2.1.2.2.2.1
theorem sn_pa {g : Int} (h0 : 0 ≤ g) (h5 : g ≤ 5) : sN (24 + 43 * g) = 7 := (gF h0 h5).2.1.2.2.2.2.2.1
theorem sn_kn {g : Int} (h0 : 0 ≤ g) (h5 : g ≤ 5) : sN (32 + 43 * g) = 7 := (gF h0 h5).2.1.2.2.2.2.2.2.2
theorem pt_am {g : Int} (h0 : 0 ≤ g) (h5 : g ≤ 5) : ptr (4 + 43 * g) 3 = 5 + 43 * g := (gF h0 h5).2.2.1
theorem pt_he {g : Int} (h0 : 0 ≤ g) (h5 : g ≤ 5) : ptr (4 + 43 * g) 4 = 6 + 43 * g := (gF h0 h5).2.2.2.1
theorem pt_sz {g : Int} (h0 : 0 ≤ g) (h5 : g ≤ 5) : ptr (4 + 43 * g) 5 = 7 + 43 * g := (gF h0 h5).2.2.2.2.1
theorem pt_ls {g : Int} (h0 : 0 ≤ g) (h5 : g ≤ 5) : ptr (4 + 43 * g) 6 = 8 + 43 * g := (gF h0 h5).2.2.2.2.2.1
theorem pt_lv {g : Int} (h0 : 0 ≤ g) (h5 : g ≤ 5) : ptr (4 + 43 * g) 7 = 16 + 43 * g := (gF h0 h5).2.2.2.2.2.2.1
theorem pt_pa {g : Int} (h0 : 0 ≤ g) (h5 : g ≤ 5) : ptr (4 + 43 * g) 8 = 24 + 43 * g := (gF h0 h5).2.2.2.2.2.2.2.1
theorem pt_kn {g : Int} (h0 : 0 ≤ g) (h5 : g ≤ 5) : ptr (4 + 43 * g) 9 = 32 + 43 * g := (gF h0 h5).2.2.2.2.2.2.2.2
theorem ck_lr {g p : Int} {P : Prop} (h0 : 0 ≤ g) (h5 : g ≤ 5) (p0 : 0 ≤ p) (p7 : p < 7) : chkK (9 + 43 * g + p) 100 P = P := chkK_eq (gR h0 h5 p0 p7).1.1
theorem ck_vr {g p : Int} {P : Prop} (h0 : 0 ≤ g) (h5 : g ≤ 5) (p0 : 0 ≤ p) (p7 : p < 7) : chkK (17 + 43 * g + p) 100 P = P := chkK_eq (gR h0 h5 p0 p7).1.2.2.1
theorem ck_pr {g p : Int} {P : Prop} (h0 : 0 ≤ g) (h5 : g ≤ 5) (p0 : 0 ≤ p) (p7 : p < 7) : chkK (25 + 43 * g + p) 100 P = P := chkK_eq (gR h0 h5 p0 p7).1.2.2.2.2.1
theorem sn_lr {g p : Int} (h0 : 0 ≤ g) (h5 : g ≤ 5) (p0 : 0 ≤ p) (p7 : p < 7) : sN (9 + 43 * g + p) = 8 := (gR h0 h5 p0 p7).1.2.1
theorem sn_vr {g p : Int} (h0 : 0 ≤ g) (h5 : g ≤ 5) (p0 : 0 ≤ p) (p7 : p < 7) : sN (17 + 43 * g + p) = 8 := (gR h0 h5 p0 p7).1.2.2.2.1
theorem sn_pr {g p : Int} (h0 : 0 ≤ g) (h5 : g ≤ 5) (p0 : 0 ≤ p) (p7 : p < 7) : sN (25 + 43 * g + p) = 8 := (gR h0 h5 p0 p7).1.2.2.2.2.2
theorem pt_lr {g p : Int} (h0 : 0 ≤ g) (h5 : g ≤ 5) (p0 : 0 ≤ p) (p7 : p < 7) : ptr (8 + 43 * g) p = 9 + 43 * g + p := (gR h0 h5 p0 p7).2.1.1
theorem pt_vr {g p : Int} (h0 : 0 ≤ g) (h5 : g ≤ 5) (p0 : 0 ≤ p) (p7 : p < 7) : ptr (16 + 43 * g) p = 17 + 43 * g + p := (gR h0 h5 p0 p7).2.1.2.1
theorem pt_pr {g p : Int} (h0 : 0 ≤ g) (h5 : g ≤ 5) (p0 : 0 ≤ p) (p7 : p < 7) : ptr (24 + 43 * g) p = 25 + 43 * g + p := (gR h0 h5 p0 p7).2.1.2.2
theorem pt_sh {g p : Int} (h0 : 0 ≤ g) (h5 : g ≤ 5) (p0 : 0 ≤ p) (p7 : p < 7) : ptr (32 + 43 * g) p = 33 + 43 * g + 2 * p := (gR h0 h5 p0 p7).2.2.1
theorem ck_sh {g p : Int} {P : Prop} (h0 : 0 ≤ g) (h5 : g ≤ 5) (p0 : 0 ≤ p) (p7 : p < 7) : chkK (33 + 43 * g + 2 * p) 7 P = P := chkK_eq (gR h0 h5 p0 p7).2.2.2.1
theorem pt_to {g p : Int} (h0 : 0 ≤ g) (h5 : g ≤ 5) (p0 : 0 ≤ p) (p7 : p < 7) : ptr (33 + 43 * g + 2 * p) 0 = 34 + 43 * g + 2 * p := (gR h0 h5 p0 p7).2.2.2.2.1
theorem ck_to {g p : Int} {P : Prop} (h0 : 0 ≤ g) (h5 : g ≤ 5) (p0 : 0 ≤ p) (p7 : p < 7) : chkK (34 + 43 * g + 2 * p) 101 P = P := chkK_eq (gR h0 h5 p0 p7).2.2.2.2.2.1
theorem sn_to {g p : Int} (h0 : 0 ≤ g) (h5 : g ≤ 5) (p0 : 0 ≤ p) (p7 : p < 7) : sN (34 + 43 * g + 2 * p) = 56 := (gR h0 h5 p0 p7).2.2.2.2.2.2
/-- both hold the same of a giving: how many, and the lists -/
def GA (σ : Mem) (g : Int) : Prop :=
  (1 ≤ σ 357 g ∧ σ 357 g ≤ 7 ∧ 1 ≤ σ 358 g ∧ σ 358 g ≤ 8 ∧ 1 ≤ σ 359 g ∧ σ 359 g ≤ 3) ∧
  (σ (4 + 43 * g) 1 = σ 357 g ∧ σ (4 + 43 * g) 0 = σ 358 g ∧ σ (4 + 43 * g) 2 = σ 359 g) ∧
  (∀ t, 0 ≤ t → t < σ 358 g → σ (5 + 43 * g) t = σ 360 (8 * g + t) ∧ 1 ≤ σ 360 (8 * g + t) ∧ σ 360 (8 * g + t) ≤ 9) ∧
  (∀ p, 0 ≤ p → p < σ 357 g → σ (7 + 43 * g) p = σ 362 (7 * g + p) ∧ 0 ≤ σ 362 (7 * g + p) ∧ σ 362 (7 * g + p) ≤ 8) ∧
  (∀ p i, 0 ≤ p → p < σ 357 g → 0 ≤ i → i < σ 362 (7 * g + p) → σ (9 + 43 * g + p) i = σ 363 (56 * g + 8 * p + i) ∧ 0 ≤ σ 363 (56 * g + 8 * p + i) ∧ σ 363 (56 * g + 8 * p + i) < σ 358 g)
/-- .. what is held, and the levels -/
def GB (σ : Mem) (g : Int) : Prop :=
  (∀ p, 0 ≤ p → p < σ 357 g → σ (6 + 43 * g) p = σ 361 (7 * g + p) ∧ -1 ≤ σ 361 (7 * g + p) ∧ σ 361 (7 * g + p) < σ 358 g) ∧
  (∀ p t, 0 ≤ p → p < σ 357 g → 0 ≤ t → t < σ 358 g → σ (17 + 43 * g + p) t = σ 364 (56 * g + 8 * p + t) ∧ -1 ≤ σ 364 (56 * g + 8 * p + t) ∧ σ 364 (56 * g + 8 * p + t) ≤ 7)
/-- .. the table -/
def GC (σ : Mem) (g : Int) : Prop :=
  ∀ p t, 0 ≤ p → p < σ 357 g → 0 ≤ t → t < σ 358 g → σ (25 + 43 * g + p) t = σ 365 (56 * g + 8 * p + t) ∧ 0 ≤ σ 365 (56 * g + 8 * p + t) ∧ σ 365 (56 * g + 8 * p + t) ≤ 60
def I_giv (σ : Mem) : Prop := σ 0 2 = σ 356 0 ∧ 0 ≤ σ 356 0 ∧ σ 356 0 ≤ 5 ∧ ∀ g, 0 ≤ g → g < σ 356 0 → GA σ g ∧ GB σ g ∧ GC σ g
theorem X_isPerson_ok {d : Nat} {K : Int → Mem → Prop} {σ : Mem} {g p : Int} (h0 : 0 ≤ g) (h5 : g ≤ 5) (k1 : 0 ≤ p → p < σ (4 + 43 * g) 1 → K 1 σ) (k0 : ¬ (0 ≤ p ∧ p < σ (4 + 43 * g) 1) → K 0 σ) : AM2 i_X_isPerson (d + 1) [(2, 4 + 43 * g), (0, p)] σ K :=
  e_X_isPerson fun _ => ⟨fun c => k0 (by omega), fun c => chkK_i (gF h0 h5).1.1 ⟨fun c2 => k1 (by omega) c2, fun c2 => k0 (by omega)⟩⟩
theorem X_isThing_ok {d : Nat} {K : Int → Mem → Prop} {σ : Mem} {g p : Int} (h0 : 0 ≤ g) (h5 : g ≤ 5) (k1 : 0 ≤ p → p < σ (4 + 43 * g) 0 → K 1 σ) (k0 : ¬ (0 ≤ p ∧ p < σ (4 + 43 * g) 0) → K 0 σ) : AM2 i_X_isThing (d + 1) [(2, 4 + 43 * g), (0, p)] σ K :=
  e_X_isThing fun _ => ⟨fun c => k0 (by omega), fun c => chkK_i (gF h0 h5).1.1 ⟨fun c2 => k1 (by omega) c2, fun c2 => k0 (by omega)⟩⟩
-- with the givings' invariant
theorem giv_P {σ : Mem} (hI : I_giv σ) : (0 ≤ mG σ ∧ mG σ ≤ 5) ∧ (∀ g, 0 ≤ g → g < mG σ → 1 ≤ σ 357 g ∧ σ 357 g ≤ 7) ∧ (∀ g, 0 ≤ g → g < mG σ → 1 ≤ σ 358 g ∧ σ 358 g ≤ 8) :=
  ⟨⟨hI.2.1, hI.2.2.1⟩, fun g a b => ⟨(hI.2.2.2 g a b).1.1.1, (hI.2.2.2 g a b).1.1.2.1⟩, fun g a b => ⟨(hI.2.2.2 g a b).1.1.2.2.1, (hI.2.2.2 g a b).1.1.2.2.2.1⟩⟩
/-- is it a giving: class -/
theorem Xg {d : Nat} {K : Int → Mem → Prop} {σ : Mem} {g : Int} (hI : I_giv σ) (h1 : 0 ≤ g → g < 5 → g < σ 356 0 → GA σ g → GB σ g → GC σ g → K 1 σ) (h0 : ¬ (0 ≤ g ∧ g < σ 356 0) → K 0 σ) : AM2 i_X_isGiving (d + 1) [(2, 0), (0, g)] σ K := by
  obtain ⟨e, a0, a5, hg⟩ := hI
  refine X_isGiving_ok (fun a b => ?_) (fun c => h0 (by omega))
  have q := hg g a (by omega)
  exact h1 a (by omega) (by omega) q.1 q.2.1 q.2.2
theorem Mg {d : Nat} {K : Int → Mem → Prop} {σ : Mem} {g : Int} (hI : I_giv σ) (h1 : 0 ≤ g → g < 5 → g < σ 356 0 → GA σ g → GB σ g → GC σ g → K 1 σ) (h0 : ¬ (0 ≤ g ∧ g < σ 356 0) → K 0 σ) : AM2 i_M_isGiving (d + 2) [(2, 356), (0, g)] σ K := by
  obtain ⟨e, a0, a5, hg⟩ := hI
  refine M_isGiving_ok ⟨a0, a5⟩ (fun a b => ?_) h0
  unfold mG at b
  have q := hg g a b
  exact h1 a (by omega) b q.1 q.2.1 q.2.2
theorem Mp {d : Nat} {K : Int → Mem → Prop} {σ : Mem} {g p : Int} (hI : I_giv σ) (h1 : 0 ≤ g → g < 5 → g < σ 356 0 → 0 ≤ p → p < σ 357 g → p < 7 → GA σ g → GB σ g → GC σ g → K 1 σ) (h0 : ¬ ((0 ≤ g ∧ g < σ 356 0) ∧ 0 ≤ p ∧ p < σ 357 g) → K 0 σ) : AM2 i_M_isPerson (d + 3) [(2, 356), (0, g), (0, p)] σ K := by
  refine M_isPerson_ok (giv_P hI).1 (giv_P hI).2.1 (fun a b c e => ?_) h0
  obtain ⟨-, a0, a5, hg⟩ := hI
  unfold mG at b
  have q := hg g a b
  have q1 := q.1.1
  exact h1 a (by omega) b c e (by omega) q.1 q.2.1 q.2.2
theorem Mt {d : Nat} {K : Int → Mem → Prop} {σ : Mem} {g t : Int} (hI : I_giv σ) (h1 : 0 ≤ g → g < 5 → g < σ 356 0 → 0 ≤ t → t < σ 358 g → t < 8 → GA σ g → GB σ g → GC σ g → K 1 σ) (h0 : ¬ ((0 ≤ g ∧ g < σ 356 0) ∧ 0 ≤ t ∧ t < σ 358 g) → K 0 σ) : AM2 i_M_isThing (d + 3) [(2, 356), (0, g), (0, t)] σ K := by
  refine M_isThing_ok (giv_P hI).1 (giv_P hI).2.2 (fun a b c e => ?_) h0
  obtain ⟨-, a0, a5, hg⟩ := hI
  unfold mG at b
  have q := hg g a b
  have q1 := q.1.1
  exact h1 a (by omega) b c e (by omega) q.1 q.2.1 q.2.2
