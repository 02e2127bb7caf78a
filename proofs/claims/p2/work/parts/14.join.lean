/-! ===== own rows, laid by wip/tools/sym.py: Minors.join ===== -/
/-- the masks of j coordinates -/
def lev : Nat → List Nat
  | 0 => [0]
  | 1 => [1, 2, 4, 8]
  | 2 => [3, 5, 6, 9, 10, 12]
  | 3 => [7, 11, 13, 14]
  | 4 => [15]
  | _ => []
/-- a determinant over the mask m, expanded along its last line a -/
def mex (f : Nat → Int64) (a : Nat → Int32) : Nat → Int64
  | 1 => (0 : Int64) + (1 : Int64) * f 0 * (a 0).toInt64
  | 2 => (0 : Int64) + (1 : Int64) * f 0 * (a 1).toInt64
  | 4 => (0 : Int64) + (1 : Int64) * f 0 * (a 2).toInt64
  | 8 => (0 : Int64) + (1 : Int64) * f 0 * (a 3).toInt64
  | 3 => (0 : Int64) + (1 : Int64) * f 1 * (a 1).toInt64 + (-1 : Int64) * f 2 * (a 0).toInt64
  | 5 => (0 : Int64) + (1 : Int64) * f 1 * (a 2).toInt64 + (-1 : Int64) * f 4 * (a 0).toInt64
  | 6 => (0 : Int64) + (1 : Int64) * f 2 * (a 2).toInt64 + (-1 : Int64) * f 4 * (a 1).toInt64
  | 9 => (0 : Int64) + (1 : Int64) * f 1 * (a 3).toInt64 + (-1 : Int64) * f 8 * (a 0).toInt64
  | 10 => (0 : Int64) + (1 : Int64) * f 2 * (a 3).toInt64 + (-1 : Int64) * f 8 * (a 1).toInt64
  | 12 => (0 : Int64) + (1 : Int64) * f 4 * (a 3).toInt64 + (-1 : Int64) * f 8 * (a 2).toInt64
  | 7 => (0 : Int64) + (1 : Int64) * f 3 * (a 2).toInt64 + (-1 : Int64) * f 5 * (a 1).toInt64 + (1 : Int64) * f 6 * (a 0).toInt64
  | 11 => (0 : Int64) + (1 : Int64) * f 3 * (a 3).toInt64 + (-1 : Int64) * f 9 * (a 1).toInt64 + (1 : Int64) * f 10 * (a 0).toInt64
  | 13 => (0 : Int64) + (1 : Int64) * f 5 * (a 3).toInt64 + (-1 : Int64) * f 9 * (a 2).toInt64 + (1 : Int64) * f 12 * (a 0).toInt64
  | 14 => (0 : Int64) + (1 : Int64) * f 6 * (a 3).toInt64 + (-1 : Int64) * f 10 * (a 2).toInt64 + (1 : Int64) * f 12 * (a 1).toInt64
  | 15 => (0 : Int64) + (1 : Int64) * f 7 * (a 3).toInt64 + (-1 : Int64) * f 11 * (a 2).toInt64 + (1 : Int64) * f 13 * (a 1).toInt64 + (-1 : Int64) * f 14 * (a 0).toInt64
  | _ => 0
def mfill (f g : Nat → Int64) (a : Nat → Int32) (ms : List Nat) : Nat → Int64 := ms.foldl (fun h m => vp_updL h m (mex f a m)) g
def indep (j : Nat) (f : Nat → Int64) (a : Nat → Int32) : Prop := ∃ m ∈ lev (j + 1), ¬ mex f a m = 0
/-- the row at place w -/
def rowAt (pf : Nat → Int32) (w : Nat) : Nat → Int32 := fun i => pf (w * 4 + i)
noncomputable def bi (p : Prop) : Int32 := @ite _ p (Classical.propDecidable p) 1 0
theorem bi_t {p : Prop} (h : p) : bi p = 1 := by unfold bi; exact if_pos h
theorem bi_f {p : Prop} (h : ¬ p) : bi p = 0 := by unfold bi; exact if_neg h
theorem bi_ne {p : Prop} : ¬ bi p = 0 ↔ p := by
  by_cases h : p
  · rw [bi_t h]; exact ⟨fun _ => h, fun _ => by decide⟩
  · rw [bi_f h]; exact ⟨fun z => absurd rfl z, fun z => absurd z h⟩
theorem lg_ne {x : Int64} : ¬ lg_cmp x 0 = 0 ↔ ¬ x = 0 := by
  unfold lg_cmp
  constructor
  · intro h e; subst e; exact h (by decide)
  · intro h
    split
    · decide
    · first
      | decide
      | (rw [if_neg h]; decide)
