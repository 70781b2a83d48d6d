/-! the mathematics that both sides are held against, read off the model's memory -/
def sumN : Nat → (Nat → Int) → Int
  | 0, _ => 0
  | n + 1, f => sumN n f + f n
def nB (τ : St) : Nat := (τ.1 0 0).toInt.toNat
def nS (τ : St) : Nat := (τ.1 0 1).toInt.toNat
def nK (τ : St) : Nat := (τ.1 0 2).toInt.toNat
def prc (τ : St) (k : Nat) : Int := (τ.1 0 3).toInt + k * (τ.1 0 4).toInt
def lsd (τ : St) : Nat := (τ.1 0 6).toInt.toNat
def knd (τ : St) (s : Nat) : Int := (τ.1 3 s).toInt
def mny (τ : St) (s : Nat) : Int := (τ.1 4 s).toInt
def nmd (τ : St) (s : Nat) : Nat := (τ.1 5 s).toInt.toNat
def wth (τ : St) (s : Nat) : Int := (τ.1 6 s).toInt
def cst (τ : St) (b : Nat) : Int := (τ.1 2 b).toInt
def prm (τ : St) : Nat := (τ.1 0 37).toInt.toNat
/-- the law f (-1: none) bars step k -/
abbrev barF (τ : St) (f : Int) (k : Nat) : Prop := 0 ≤ f ∧ ((τ.1 19 f.toNat).toInt = 0 ∧ (τ.1 20 f.toNat).toInt < k ∨ (τ.1 19 f.toNat).toInt = 1 ∧ (k : Int) < (τ.1 20 f.toNat).toInt)
abbrev shtF (τ : St) (f : Int) : Prop := 0 ≤ f ∧ (τ.1 19 f.toNat).toInt = 2
def frc (τ : St) : Int := (τ.1 0 39).toInt
/-- how many of the first n bits are set -/
def popN : Nat → Nat → Nat
  | 0, _ => 0
  | n + 1, s => popN n s + (if s.testBit n then 1 else 0)
/-- the least of a row's steps among the first n bakers of a set -/
def leastN : Nat → Nat → (Nat → Nat) → Option Nat
  | 0, _, _ => none
  | n + 1, s, r => if s.testBit n then (match leastN n s r with
    | none => some (r n)
    | some m => some (min m (r n))) else leastN n s r
/-- how many of the first n bakers of a set ask l or promise -/
def sellN : Nat → Nat → Nat → (Nat → Nat) → Nat → Nat
  | 0, _, _, _, _ => 0
  | n + 1, s, p, r, l => sellN n s p r l + (if s.testBit n ∧ (r n = l ∨ p.testBit n) then 1 else 0)
/-- what a set's buyers of a sort leave with baker b: parts of bread (of 12) and what is paid for them, times what one part is worth to him -/
def soldF (τ : St) (s set b : Nat) (r : Nat → Nat) : Int := match leastN (nB τ) set r with
  | none => 0
  | some l => if prc τ l ≤ wth τ s ∧ set.testBit b ∧ (r b = l ∨ (prm τ).testBit b) then ((12 / sellN (nB τ) set (prm τ) r l : Nat) : Int) else 0
def gainF (τ : St) (s set b : Nat) (r : Nat → Nat) : Int := match leastN (nB τ) set r with
  | none => 0
  | some l => soldF τ s set b r * (prc τ l - cst τ b)
def fullN (τ : St) : Nat := 2 ^ nB τ - 1
/-- a sum over a sort's sets; sh: all are shouted to; dr: the doors that "women" ask -/
def setSum (τ : St) (sh : Prop) [Decidable sh] (dr : Nat → Nat) (s : Nat) (F : Nat → Int) : Int :=
  if knd τ s = 1 then sumN (2 ^ nB τ) (fun set => if popN (nB τ) set = nmd τ s then F (if sh then fullN τ else set) else 0)
  else F (if sh then fullN τ else if knd τ s = 0 then dr s else lsd τ)
/-- what baker b earns by a row, each ask sure -/
def earnF (τ : St) (sh : Prop) [Decidable sh] (dr : Nat → Nat) (b : Nat) (r : Nat → Nat) : Int :=
  sumN (nS τ) (fun s => mny τ s * setSum τ sh dr s (fun set => gainF τ s set b r))
def soldS (τ : St) (sh : Prop) [Decidable sh] (dr : Nat → Nat) (b : Nat) (r : Nat → Nat) : Int :=
  sumN (nS τ) (fun s => mny τ s * setSum τ sh dr s (fun set => soldF τ s set b r))
def upN (r : Nat → Nat) (b k : Nat) : Nat → Nat := fun j => if j = b then k else r j
/-- a row is a rest, where bar tells the barred steps, and sh that a law shouts -/
def restF (τ : St) (bar : Nat → Prop) (sh : Prop) [Decidable sh] (r : Nat → Nat) : Prop :=
  (∀ b : Nat, b < nB τ → r b < nK τ ∧ ¬ bar (r b)) ∧ ∀ b : Nat, b < nB τ → ∀ k : Nat, k < nK τ → ¬ bar k → earnF τ sh (nmd τ) b (upN r b k) ≤ earnF τ sh (nmd τ) b r
/-- the steps of the row at a place -/
def rowAt (K p : Nat) : Nat → Nat := fun b => p / K ^ b % K
noncomputable def restD (τ : St) (f : Int) (r : Nat → Nat) : Prop := @restF τ (barF τ f) (shtF τ f) (Classical.propDecidable _) r
/-- the class's marks tell the rests as all stands now -/
def RestP (σ τ : St) : Prop :=
  (σ.1 53 8).toInt = ((nK τ ^ nB τ : Nat) : Int) ∧ ((nK τ ^ nB τ : Nat) : Int) ≤ (σ.1 54 2147483648).toInt ∧ (∀ b : Nat, b < nB τ → (σ.1 55 b).toInt = ((nK τ ^ b : Nat) : Int)) ∧
  ∀ p : Nat, p < nK τ ^ nB τ → ((σ.1 54 p &&& 1).toInt = 1 ↔ restD τ (frc τ) (rowAt (nK τ) p))
def iR (σ τ : St) : Prop := rg (σ.1 54 2147483648) 8 4096 ∧ rg (σ.1 53 9) 0 1 ∧ ((σ.1 53 9).toInt = 1 → RestP σ τ)
/-- THE INVARIANT -/
def Inv (σ τ : St) : Prop := iS σ τ ∧ iP σ τ ∧ iM σ τ ∧ iL σ τ ∧ iO σ τ ∧ iR σ τ
theorem iR_forget {σ τ τ' : St} (h : iR σ τ) : iR (sI σ 53 9 0) τ' := ⟨h.1, (show rg (0 : Int32) 0 1 by constructor <;> decide), fun q => absurd (show (0 : Int32).toInt = 1 from q) (by decide)⟩
theorem Inv0 : Inv σC0 σM0 := by
  refine ⟨⟨⟨rfl, rfl, rfl, rfl, rfl, rfl, rfl, rfl⟩, ⟨?_, ?_, ?_, ?_, ?_, ?_, ?_⟩, fun s hs => ?_, fun s hs => rfl⟩, ⟨rfl, rfl, ?_, ?_, fun b hb => ?_⟩, ⟨rfl, ?_, fun i hi => ?_⟩, ⟨rfl, ?_, fun i hi => ?_⟩, ⟨rfl, ?_, rfl, rfl, fun k hk => ?_⟩, ?_, ?_, fun q => ?_⟩
  all_goals first
    | (constructor <;> decide)
    | (exfalso; have e : (σM0.1 0 1).toInt = 0 := (by decide); omega)
    | (exfalso; have e : (σM0.1 0 0).toInt = 0 := (by decide); omega)
    | (exfalso; have e : (σM0.1 0 68).toInt = 0 := (by decide); omega)
    | (exfalso; have e : (σM0.1 0 38).toInt = 0 := (by decide); omega)
    | (exfalso; have e : (σM0.1 0 29).toInt = 0 := (by decide); omega)
    | exact absurd q (by decide)
