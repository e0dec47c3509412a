/-! what ties the class's cells (σ) to the reference's (μ) -/
def Rng (len min fin sc : Int32) (fr to se st : Nat → Int32) : Prop :=
  (∃ L M : Nat, 1 ≤ L ∧ L ≤ 30 ∧ M ≤ L ∧ len = nI L ∧ min = nI M) ∧ (∃ F : Nat, F ≤ 99 ∧ fin = nI F) ∧ (∃ S : Nat, S ≤ 8 ∧ sc = nI S) ∧
  (∀ n, n < 6 → (fr n = -6 ∧ to n = -6) ∨ ∃ a b : Nat, a ≤ b ∧ b ≤ 29 ∧ fr n = nI a ∧ to n = nI b) ∧ (∀ n, n < 6 → ∃ c : Nat, c < 3 ∧ se n = nI c) ∧ (∀ n, n < 8 → ∃ t : Nat, t < 6 ∧ st n = nI t)
def Core (σ : St) (k s : Nat) (len min gua fin tun sc : Int32) (fr to se pu bi sg : Nat → Int32) : Prop :=
  (σ k 0 = len ∧ σ k 1 = min ∧ σ k 2 = gua ∧ σ k 3 = fin ∧ σ k 5 = tun ∧ σ s 2 = sc) ∧
  (∀ n, n < 6 → σ (k + 1) n = fr n ∧ σ (k + 2) n = to n ∧ σ (k + 3) n = se n ∧ σ (k + 4) n = pu n ∧ σ (k + 5) n = bi n) ∧
  (∀ n, n < 8 → σ (s + 1) n = sg (2 * n) ∧ σ (s + 2) n = sg (2 * n + 1)) ∧
  Rng (σ k 0) (σ k 1) (σ k 3) (σ s 2) (σ (k + 1)) (σ (k + 2)) (σ (k + 3)) (σ (s + 2))
def Main (σ μ : St) : Prop := Core σ 1 16 (μ 42 0) (μ 42 8) (μ 42 9) (μ 42 7) (μ 42 1) (μ 42 10) (μ 43) (μ 44) (μ 45) (μ 46) (μ 47) (μ 48)
def Padr (σ μ : St) : Prop := ∃ N : Nat, N ≤ 60 ∧ σ 13 1 = nI N ∧ μ 42 12 = nI N ∧ ∀ n, n < 60 → σ 14 n = μ 49 n
def Imgr (σ μ : St) (k t s i : Nat) : Prop := (σ k 0 = 0 ∧ μ 56 i = 0) ∨ (σ k 0 = 1 ∧ μ 56 i = 1 ∧ Core σ t s (μ 55 (70 * i + 50)) (μ 55 (70 * i + 53)) (μ 55 (70 * i + 54)) (μ 55 (70 * i + 52)) (μ 55 (70 * i + 51)) (μ 55 (70 * i + 55)) (fun n => μ 55 (70 * i + n)) (fun n => μ 55 (70 * i + 6 + n)) (fun n => μ 55 (70 * i + 12 + n)) (fun n => μ 55 (70 * i + 18 + n)) (fun n => μ 55 (70 * i + 24 + n)) (fun n => μ 55 (70 * i + 30 + n)))
def Inv2 (σ μ : St) : Prop := Main σ μ ∧ Padr σ μ ∧ Imgr σ μ 22 23 29 0 ∧ Imgr σ μ 32 33 39 1
def Inv (σ : St) : Prop := Inv2 σ σ
