/-! What both sides compute, of a row of 277 ints (the reference's own layout of a state) -/
abbrev Row : Type := Nat → Int32
def rC (R : Row) (c f : Nat) : Int32 := R (33 + 9 * c + f)
def rT (R : Row) (t f : Nat) : Int32 := R (141 + 34 * t + f)
def rS (R : Row) (s f : Nat) : Int32 := R (9 + 4 * s + f)
def cn (R : Row) : Nat := (R 8).toInt.toNat
def pn (R : Row) (t : Nat) : Nat := (rT R t 4).toInt.toNat
noncomputable section
def ifp {α : Type} (P : Prop) (a b : α) : α := @ite α P (Classical.propDecidable P) a b
theorem ifp_t {α : Type} {P : Prop} {a b : α} (h : P) : ifp P a b = a := if_pos h
theorem ifp_f {α : Type} {P : Prop} {a b : α} (h : ¬ P) : ifp P a b = b := if_neg h
/-- how many of the first N hold, from the first on -/
def lead (p : Nat → Prop) : Nat → Nat
  | 0 => 0
  | n + 1 => ifp (lead p n = n ∧ p n) (n + 1) (lead p n)
theorem lead_s (p : Nat → Prop) (n : Nat) : (lead p n = n ∧ p n → lead p (n + 1) = n + 1) ∧ (¬ (lead p n = n ∧ p n) → lead p (n + 1) = lead p n) := ⟨fun h => ifp_t h, fun h => ifp_f h⟩
theorem lead_is {p : Nat → Prop} : ∀ {N k : Nat}, k ≤ N → (∀ j, j < k → p j) → (k < N → ¬ p k) → lead p N = k
  | 0, k, h, _, _ => by have : k = 0 := by omega
                        subst this; rfl
  | n + 1, k, h, h1, h2 => by
    have hs := lead_s p n
    by_cases e : k = n + 1
    · subst e
      exact hs.1 ⟨lead_is (Nat.le_refl n) (fun j hj => h1 j (by omega)) (fun q => absurd q (Nat.lt_irrefl n)), h1 n (by omega)⟩
    · have ih : lead p n = k := lead_is (by omega) h1 (fun q => h2 (by omega))
      rw [hs.2 (fun q => by
        have e2 : k = n := by rw [← ih, q.1]
        exact h2 (by omega) (e2 ▸ q.2)), ih]
theorem lead_ex (p : Nat → Prop) (N : Nat) : lead p N ≤ N ∧ (∀ j, j < lead p N → p j) ∧ (lead p N < N → ¬ p (lead p N)) := by
  induction N with
  | zero => exact ⟨Nat.le_refl _, fun j hj => absurd hj (Nat.not_lt_zero _), fun h => absurd h (Nat.not_lt_zero _)⟩
  | succ n ih =>
    have hs := lead_s p n
    by_cases h : lead p n = n ∧ p n
    · rw [hs.1 h]
      refine ⟨Nat.le_refl _, fun j hj => ?_, fun q => absurd q (Nat.lt_irrefl _)⟩
      by_cases e : j = n
      · rw [e]; exact h.2
      · exact ih.2.1 j (by omega)
    · rw [hs.2 h]
      refine ⟨by omega, ih.2.1, fun _ q => ?_⟩
      by_cases e : lead p n = n
      · exact h ⟨e, e ▸ q⟩
      · exact ih.2.2 (by omega) q
/-- a sample -/
def noise (a p i : Int32) : Int32 :=
  Int64.toInt32 (((1103515245 * Int32.toInt64 (i + 1) + 12345 * Int32.toInt64 p) - (1103515245 * Int32.toInt64 (i + 1) + 12345 * Int32.toInt64 p) / 2147483648 * 2147483648) / 65536 -
    ((1103515245 * Int32.toInt64 (i + 1) + 12345 * Int32.toInt64 p) - (1103515245 * Int32.toInt64 (i + 1) + 12345 * Int32.toInt64 p) / 2147483648 * 2147483648) / 65536 / Int32.toInt64 (2 * a + 1) * Int32.toInt64 (2 * a + 1)) - a
def smp (sh a p i : Int32) : Int32 :=
  if sh.toInt = 1 then (if p ≤ 2 * (i - i / p * p) then -a else a)
  else if sh.toInt = 2 then 2 * a * (i - i / p * p) / p - a
  else if sh.toInt = 3 then noise a p i
  else a
def smpR (R : Row) (s : Nat) (i : Int32) : Int32 := smp (rS R s 0) (rS R s 1) (rS R s 2) i
/-- a value with a fade -/
def fd (v i len cv : Int32) : Int32 := if i < len then ap v (if cv = 1 then (1000 * i / len) * (1000 * i / len) / 1000 else 1000 * i / len) else v
def rawR (R : Row) (c : Nat) (n : Int32) : Int32 :=
  fd (fd (ap (if rC R c 3 + (n - rC R c 2) < rS R (rC R c 1).toInt.toNat 3 then smpR R (rC R c 1).toInt.toNat (rC R c 3 + (n - rC R c 2)) else 0) (rC R c 5)) (n - rC R c 2) (rC R c 6) (rC R c 8)) (rC R c 4 - 1 - (n - rC R c 2)) (rC R c 7) (rC R c 8)
/-- the gain of a lane -/
def pa (R : Row) (t : Nat) (n : Int32) : Nat := lead (fun k => rT R t (5 + 3 * k) < n) (pn R t)
def laneR (R : Row) (t : Nat) (n : Int32) : Int32 :=
  if pn R t = 0 then 1000
  else if pa R t (n + 1) = 0 then rT R t 6
  else if pa R t (n + 1) = pn R t ∨ rT R t (5 + 3 * (pa R t (n + 1) - 1) + 2) = 1 then rT R t (5 + 3 * (pa R t (n + 1) - 1) + 1)
  else rT R t (5 + 3 * (pa R t (n + 1) - 1) + 1) + iI (((rT R t (5 + 3 * pa R t (n + 1) + 1)).toInt - (rT R t (5 + 3 * (pa R t (n + 1) - 1) + 1)).toInt) * (n.toInt - (rT R t (5 + 3 * (pa R t (n + 1) - 1))).toInt) / ((rT R t (5 + 3 * pa R t (n + 1))).toInt - (rT R t (5 + 3 * (pa R t (n + 1) - 1))).toInt))
/-- the dry value -/
def cov (R : Row) (c : Nat) (n : Int32) : Prop := rC R c 2 ≤ n ∧ n < rC R c 2 + rC R c 4
def on (R : Row) (t : Nat) (n : Int32) (c : Nat) : Prop := rC R c 0 = nI t ∧ cov R c n
def fc (R : Row) (t : Nat) (n : Int32) : Nat := lead (fun c => ¬ on R t n c) (cn R)
def two (R : Row) (t : Nat) (n : Int32) : Prop := fc R t n + 1 < cn R ∧ on R t n (fc R t n + 1)
def wxf (R : Row) (a : Nat) (n : Int32) : Int32 := 1000 * (n - rC R (a + 1) 2) / (rC R a 2 + rC R a 4 - rC R (a + 1) 2)
def sumR (R : Row) (t : Nat) (n : Int32) : Int32 :=
  if fc R t n = cn R then 0
  else ifp (two R t n) (ap (rawR R (fc R t n) n) (1000 - wxf R (fc R t n) n) + ap (rawR R (fc R t n + 1) n) (wxf R (fc R t n) n)) (rawR R (fc R t n) n)
def dryR (R : Row) (t : Nat) (n : Int32) : Int32 := ap (ap (sumR R t n) (rT R t 0)) (laneR R t n)
/-- ducking: 0 is the end before the first window -/
def loudR (R : Row) (key : Nat) (w : Nat) (thr : Int32) : Prop := thr.toInt ≤ 0 ∨ ∃ j, j < 40 ∧ (thr.toInt ≤ (dryR R key (nI (40 * w + j))).toInt ∨ thr.toInt ≤ -(dryR R key (nI (40 * w + j))).toInt)
def keyN (R : Row) (t : Nat) : Nat := (rT R t 29).toInt.toNat
def dk (R : Row) (t : Nat) : Nat → Int32
  | 0 => 1000
  | 1 => 1000
  | m + 2 => ifp (loudR R (keyN R t) m (rT R t 30)) (if rT R t 31 < dk R t (m + 1) - rT R t 32 then dk R t (m + 1) - rT R t 32 else rT R t 31) (if dk R t (m + 1) + rT R t 33 < 1000 then dk R t (m + 1) + rT R t 33 else 1000)
def dgR (R : Row) (t : Nat) (n : Nat) : Int32 :=
  if rT R t 29 = -1 then 1000 else dk R t (n / 40) + iI (((dk R t (n / 40 + 1)).toInt - (dk R t (n / 40)).toInt) * ((n : Int) - 40 * (n / 40 : Nat)) / 40)
def valR (R : Row) (t : Nat) (n : Nat) : Int32 := ap (dryR R t (nI n)) (dgR R t n)
/-- the mix -/
def someSolo (R : Row) : Prop := rT R 0 3 = 1 ∨ rT R 1 3 = 1 ∨ rT R 2 3 = 1 ∨ rT R 3 3 = 1
def heard (R : Row) (t : Nat) : Prop := rT R t 2 = 0 ∧ (¬ someSolo R ∨ rT R t 3 = 1)
def lft (R : Row) (t n : Nat) : Int := (valR R t n).toInt * (100 - (if 0 < (rT R t 1).toInt then (rT R t 1).toInt else 0)) / 100
def rgt (R : Row) (t n : Nat) : Int := (valR R t n).toInt * (100 + (if (rT R t 1).toInt < 0 then (rT R t 1).toInt else 0)) / 100
def sumL (R : Row) (n : Nat) : Nat → Int
  | 0 => 0
  | t + 1 => sumL R n t + ifp (heard R t) (lft R t n) 0
def sumRt (R : Row) (n : Nat) : Nat → Int
  | 0 => 0
  | t + 1 => sumRt R n t + ifp (heard R t) (rgt R t n) 0
def mst (R : Row) (s : Int) : Int32 := ap (iI s) (R 3)
def lim (x : Int32) : Int32 := if 32767 < x then 32767 else if x < -32767 then -32767 else x
def limN (x : Int32) : Int := if 32767 < x ∨ x < -32767 then 1 else 0
def mixL (R : Row) (n : Nat) : Int32 := lim (mst R (sumL R n 4))
def mixRt (R : Row) (n : Nat) : Int32 := lim (mst R (sumRt R n 4))
def mixN (R : Row) (n : Nat) : Int := limN (mst R (sumL R n 4)) + limN (mst R (sumRt R n 4))
end
