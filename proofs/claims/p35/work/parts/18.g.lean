/-! squares, counts, the genus -/
def sD (n : Nat) (E : Nat → List Nat) (i x : Nat) : Bool := sHas (sRounds E n n (2 ^ i)) x
theorem sD_at {n : Nat} {E : Nat → List Nat} (hn : n ≤ 5) (hE : sEin n E) : ∀ i x, i < n → x < n → (sD n E i x = true ↔ sRel n E i x) := fun i x hi hx => (sGroup hn hE hi).2 x hx
def sMany (n : Nat) (E : Nat → List Nat) : Nat := jcnt n (fun x => jall x (fun i => !sD n E i x))
theorem sE2 {n : Nat} {r u g : Nat → Nat} (a : Nat) : sE n r u g 2 a = [r a, u a] := by
  unfold sE
  rw [if_neg (by decide), if_pos rfl]
theorem sE3 {n : Nat} {r u g : Nat → Nat} (a : Nat) : sE n r u g 3 a = [r a] := by
  unfold sE
  rw [if_neg (by decide), if_neg (by decide), if_neg (fun h => absurd h.1 (by decide))]
theorem c_many {n : Nat} {right up left down : Nat → Int32} {r s u w : Nat → Nat} (hn : n ≤ 5) (hr : sP n r s) (hu : sP n u w) (fr : sR n right r) (fu : sR n up u) (fl : sR n left s) (fd : sR n down w) {what : Nat} (hw : 1 ≤ what ∧ what ≤ 4) : jf_Su_groups (nI n) right up left down (nI what) = some (nI (sMany n (sE n r u (sG r s u w) what))) :=
  c_groups hn hr hu fr fu fl fd hw (sD_at hn (sE_in hr hu (sG_P hr hu) what))
theorem sR_eq {n : Nat} {f g : Nat → Int32} {r : Nat → Nat} (h : sR n f r) (e : ∀ k, k < n → g k = f k) : sR n g r := fun k hk => by rw [e k hk]; exact h k hk
