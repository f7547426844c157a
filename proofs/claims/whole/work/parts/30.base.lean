/-! PURE PART: numbers, loops, the relation between the class's memory and the model's -/
theorem wr_eq {β : Type} (x : Mem) (K : Mem → Option β) : wr x K = K x := rfl
theorem l1_of {β : Type} {x : Option Mem} {K : Mem → Option β} {m : Mem} (h : x = some m) : l1 x K = K m := by rw [h]; rfl
theorem l2_of {a β : Type} {x : Option (a × Mem)} {K : a → Mem → Option β} {y : a} {m : Mem} (h : x = some (y, m)) : l2 x K = K y m := by rw [h]; rfl
theorem l3_of {a b β : Type} {x : Option (a × b × Mem)} {K : a → b → Mem → Option β} {y : a} {z : b} {m : Mem} (h : x = some (y, z, m)) : l3 x K = K y z m := by rw [h]; rfl
theorem l4_of {a b c β : Type} {x : Option (a × b × c × Mem)} {K : a → b → c → Mem → Option β} {y : a} {z : b} {u : c} {m : Mem} (h : x = some (y, z, u, m)) : l4 x K = K y z u m := by rw [h]; rfl
/-- a fold over the numbers from i on, d of them -/
def fd {σ : Type} (f : Nat → σ → σ) : Nat → Nat → σ → σ
  | _, 0, s => s
  | i, d + 1, s => fd f (i + 1) d (f i s)
theorem fd_last {σ : Type} (f : Nat → σ → σ) : ∀ (d i : Nat) (s : σ), fd f i (d + 1) s = f (i + d) (fd f i d s)
  | 0, _, _ => rfl
  | d + 1, i, s => by
    have h := fd_last f d (i + 1) (f i s)
    rw [show i + 1 + d = i + (d + 1) by omega] at h
    exact h
theorem fd_congr {σ : Type} {f g : Nat → σ → σ} : ∀ (d i : Nat) (s : σ), (∀ j s, i ≤ j → j < i + d → f j s = g j s) → fd f i d s = fd g i d s
  | 0, _, _, _ => rfl
  | d + 1, i, s, h => by
    show fd f (i + 1) d (f i s) = fd g (i + 1) d (g i s)
    rw [h i s (Nat.le_refl _) (by omega)]
    exact fd_congr d (i + 1) _ (fun j s h1 h2 => h j s (by omega) (by omega))
/-- an invariant of a fold -/
theorem fd_inv {σ : Type} {f : Nat → σ → σ} (P : Nat → σ → Prop) : ∀ (d i : Nat) (s : σ), P i s → (∀ j s, i ≤ j → j < i + d → P j s → P (j + 1) (f j s)) → P (i + d) (fd f i d s)
  | 0, _, _, h, _ => h
  | d + 1, i, s, h, hs => by
    have h2 := fd_inv P d (i + 1) (f i s) (hs i s (Nat.le_refl _) (by omega) h) (fun j s h1 h2 hp => hs j s (by omega) (by omega) hp)
    rw [show i + 1 + d = i + (d + 1) by omega] at h2
    exact h2
/-- a loop that counts up -/
theorem loop_up {σ β : Type} (L : Nat → Nat → σ → Option β) (K : Nat) (step : Nat → σ → σ) (out : σ → β) (P : Nat → σ → Prop)
    (hs : ∀ n i s, i < K → P i s → L (n + 1) i s = L n (i + 1) (step i s) ∧ P (i + 1) (step i s)) (he : ∀ n s, P K s → L (n + 1) K s = some (out s)) :
    ∀ (d n i : Nat) (s : σ), i + d = K → d < n → P i s → L n i s = some (out (fd step i d s)) ∧ P K (fd step i d s) := by
  intro d
  induction d with
  | zero =>
    intro n i s hi hn hp
    obtain ⟨n, rfl⟩ : ∃ k, n = k + 1 := ⟨n - 1, by omega⟩
    obtain rfl : i = K := by omega
    exact ⟨he n s hp, hp⟩
  | succ d ih =>
    intro n i s hi hn hp
    obtain ⟨n, rfl⟩ : ∃ k, n = k + 1 := ⟨n - 1, by omega⟩
    obtain ⟨h1, h2⟩ := hs n i s (by omega) hp
    rw [h1]
    exact ih n (i + 1) (step i s) (by omega) (by omega) h2
theorem inb_nI {j n : Nat} (h : j < n) (hn : n < 2 ^ 31) : inb (nI j) n = true := by
  unfold inb
  have h1 : ¬ nI j < 0 := nI_pos (by omega)
  have h2 : ¬ n ≤ (nI j).toNatClampNeg := by rw [nI_clamp (by omega)]; omega
  simp [h1, h2]
theorem i32_of {x : Int32} {n : Nat} (h : x.toInt = n) : x = nI n := by
  apply Int32.toInt_inj.mp
  rw [h]
  have hb := Int32.toInt_lt x
  rw [nI_toInt (by omega)]
theorem nI_lt_iff {a b : Nat} (ha : a < 2 ^ 31) (hb : b < 2 ^ 31) : (nI a < nI b) = (a < b) := propext (nI_ltI ha hb)
theorem nI_le_iff {a b : Nat} (ha : a < 2 ^ 31) (hb : b < 2 ^ 31) : (nI a ≤ nI b) = (a ≤ b) := propext (nI_leI ha hb)
theorem nI_eq_iff {a b : Nat} (ha : a < 2 ^ 31) (hb : b < 2 ^ 31) : (nI a = nI b) = (a = b) := propext (nI_eq ha hb)
theorem lg_self (x : Int64) : lg_cmp x x = 0 := by
  unfold lg_cmp
  rw [if_neg (fun h => Int64.lt_irrefl h), if_pos rfl]
