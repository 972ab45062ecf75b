/-! Reading a file, as a program over numbers: rows S, a place p, a byte b p (256 behind the end). -/
abbrev RW : Type := Nat → Nat → Nat
abbrev RS : Type := Except (Nat × Nat) (RW × Nat × Nat)
def st (S : RW) (r i x : Nat) : RW := fun r' i' => if r' = r then (if i' = i then x else S r i') else if r' = r + 100 then (if i' = i then 1 else S (r + 100) i') else S r' i'
theorem st_r {S : RW} {r i x i' : Nat} : st S r i x r i' = if i' = i then x else S r i' := by unfold st; rw [if_pos rfl]
theorem st_m {S : RW} {r i x i' : Nat} : st S r i x (r + 100) i' = if i' = i then 1 else S (r + 100) i' := by unfold st; rw [if_neg (by omega), if_pos rfl]
theorem st_o {S : RW} {r i x r' : Nat} (h : r' ≠ r) (h' : r' ≠ r + 100) : st S r i x r' = S r' := by funext i'; unfold st; rw [if_neg h, if_neg h']
def bi (r : RS) (f : RW → Nat → Nat → RS) : RS := match r with
  | .error e => .error e
  | .ok (S, p, v) => f S p v
theorem bi_ok (S : RW) (p v : Nat) (f : RW → Nat → Nat → RS) : bi (.ok (S, p, v)) f = f S p v := rfl
theorem bi_er (e : Nat × Nat) (f : RW → Nat → Nat → RS) : bi (.error e) f = .error e := rfl
theorem bi_bi (r : RS) (f h : RW → Nat → Nat → RS) : bi (bi r f) h = bi r (fun S p v => bi (f S p v) h) := by
  cases r with
  | error e => rfl
  | ok t => rfl
abbrev dg (x : Nat) : Prop := 48 ≤ x ∧ x ≤ 57
def lp (f : Nat → RW → Nat → RS) : Nat → Nat → RW → Nat → RS
  | _, 0, S, p => .ok (S, p, 0)
  | k, m + 1, S, p => bi (f k S p) (fun S p _ => lp f (k + 1) m S p)
section
variable (b : Nat → Nat)
def psA (c : Nat) (S : RW) (p : Nat) : RS := if b p = c then .ok (S, p + 1, 0) else .error (1, p)
def nrA (S : RW) : Nat → Nat → Nat → Nat → RS
  | 0, p, _, v => .ok (S, p, v)
  | m + 1, p, k, v => if dg (b p) then (if k = 4 ∨ (k = 1 ∧ v = 0) then .error (1, p) else nrA S m (p + 1) (k + 1) (10 * v + b p - 48)) else .ok (S, p, v)
def nuA (S : RW) (p : Nat) : RS := if dg (b p) then nrA b S 5 p 0 0 else .error (1, p)
def liA (S : RW) (p : Nat) : RS := bi (nuA b S p) (fun S q v => if v ≤ 2 * S 0 0 + 1 then .ok (S, q, v) else .error (3, p))
def deA (kind : Nat) (S : RW) (p : Nat) : RS := bi (liA b S p) (fun S q v => if v < 2 ∨ v % 2 = 1 ∨ S 8 (v / 2) ≠ 0 then .error (4, p) else .ok (st S 8 (v / 2) kind, q, v))
def usA (S : RW) (p : Nat) : RS := bi (liA b S p) (fun S q v => .ok (st (st (st S 19 (S 32 0) v) 20 (S 32 0) p) 32 0 (S 32 0 + 1), q, v))
def inA (k : Nat) (S : RW) (p : Nat) : RS := bi (deA b 1 S p) (fun S q v => psA b 10 (st S 1 k (v / 2)) q)
def nxA (k : Nat) (S : RW) (p : Nat) : RS := bi (usA b S p) (fun S q v => psA b 10 (st (st S 3 k v) 23 k p) q)
def lvA (k : Nat) (S : RW) (p : Nat) : RS := bi (deA b 2 S p) (fun S q v => psA b 32 (st S 2 k (v / 2)) q)
def laA (k : Nat) (S : RW) (p : Nat) : RS := bi (lvA b k S p) (fun S q _ => nxA b k S q)
def ouA (k : Nat) (S : RW) (p : Nat) : RS := bi (usA b S p) (fun S q v => psA b 10 (st (st S 4 k v) 24 k p) q)
def opA (r r' r'' v k : Nat) (S : RW) (p : Nat) : RS := bi (usA b S p) (fun S q l => .ok (st (st (st S r v l) r' k l) r'' k p, q, l))
def anA (k : Nat) (S : RW) (p : Nat) : RS := bi (deA b 3 S p) (fun S q v => bi (psA b 32 (st S 12 k (v / 2)) q) (fun S q _ => bi (opA b 6 13 33 (v / 2) k S q) (fun S q _ => bi (psA b 32 S q) (fun S q _ => bi (opA b 7 14 34 (v / 2) k S q) (fun S q _ => psA b 10 S q)))))
def dbA (S : RW) : Nat → Nat → Nat → Nat → RS
  | 0, p, _, _ => .error (1, p)
  | m + 1, p, k, d => if b p = 256 then .error (1, p) else if b p < 128 then .ok (S, p + 1, d + b p % 128 * 128 ^ k) else dbA S m (p + 1) (k + 1) (d + b p % 128 * 128 ^ k)
def dlA (fr least r r' v k : Nat) (S : RW) (p : Nat) : RS := bi (dbA b S 3 p 0 0) (fun S q d => if d < least ∨ fr < d then .error (3, p) else .ok (st (st S r v (fr - d)) r' k (fr - d), q, fr - d))
def dnA (k : Nat) (S : RW) (p : Nat) : RS := bi (dlA b (2 * S 12 k) 1 6 13 (S 12 k) k S p) (fun S q l => dlA b l 0 7 14 (S 12 k) k S q)
def boI (k : Nat) (S : RW) : RW := st (st S 8 (1 + k) 1) 1 k (1 + k)
def boL (k : Nat) (S : RW) : RW := st (st S 8 (1 + S 0 1 + k) 2) 2 k (1 + S 0 1 + k)
def boA (k : Nat) (S : RW) : RW := st (st S 8 (1 + S 0 1 + S 0 2 + k) 3) 12 k (1 + S 0 1 + S 0 2 + k)
def itS (f : Nat → RW → RW) : Nat → Nat → RW → RW
  | _, 0, S => S
  | k, m + 1, S => itS f (k + 1) m (f k S)
def bdA (S : RW) : RW := itS boA 0 (S 0 4) (itS boL 0 (S 0 2) (itS boI 0 (S 0 1) S))
def nmA (kd s : Nat) : Nat → RW → Nat → Nat → RS
  | 0, S, p, i => .ok (S, p, i)
  | m + 1, S, p, i => if b p = 256 ∨ b p = 10 then .ok (S, p, i) else nmA kd s m (st S (50 + kd) (40 * s + i) (b p)) (p + 1) (i + 1)
def naA (kd s : Nat) (S : RW) (p : Nat) : RS := bi (nmA b kd s 40 S p 0) (fun S q i => if i = 0 then .error (1, q) else psA b 10 (st S (40 + kd) s i) q)
def s1A (kd : Nat) (S : RW) (p : Nat) : RS := bi (nuA b S p) (fun S q v => if S 0 (1 + kd) ≤ v ∨ S (40 + kd) v ≠ 0 then .error (1, q) else bi (psA b 32 S q) (fun S q _ => naA b kd v S q))
def smA (S : RW) (p : Nat) : RS := if b p = 105 then s1A b 0 S (p + 1) else if b p = 108 then s1A b 1 S (p + 1) else if b p = 111 then s1A b 2 S (p + 1) else .error (1, p)
def syA : Nat → RW → Nat → RS
  | 0, S, p => .ok (S, p, 0)
  | m + 1, S, p => if b p = 256 then .ok (S, p, 0) else if b p = 99 then psA b 10 S (p + 1) else bi (smA b S p) (fun S p _ => syA m S p)
def fuA (S : RW) (p : Nat) : Nat → Nat → RS
  | 0, _ => .ok (S, p, 0)
  | m + 1, i => if S 19 i < 2 ∨ S 8 (S 19 i / 2) ≠ 0 then fuA S p m (i + 1) else .error (5, S 20 i)
def hdA (k : Nat) (S : RW) (p : Nat) : RS := bi (psA b 32 S p) (fun S q _ => bi (nuA b S q) (fun S q v => .ok (st S 0 k v, q, 0)))
def heA (S : RW) (p : Nat) : RS := bi (psA b 97 S p) (fun S q _ => bi (psA b (if b q = 105 then 105 else 97) (st S 30 0 (if b q = 105 then 1 else 0)) q) (fun S q _ => bi (psA b 103 S q) (fun S q _ => bi (lp (hdA b) 0 5 S q) (fun S q _ => psA b 10 S q))))
/-- the sizes that a file may have -/
abbrev fit (S : RW) : Prop := S 0 0 ≤ 200 ∧ S 0 1 ≤ 5 ∧ S 0 2 ≤ 6 ∧ S 0 3 ≤ 8 ∧ S 0 4 ≤ 150 ∧ ((S 30 0 = 0 ∧ S 0 1 + S 0 2 + S 0 4 ≤ S 0 0) ∨ (S 30 0 ≠ 0 ∧ S 0 0 = S 0 1 + S 0 2 + S 0 4))
def szS (S : RW) : RW := st (st (st (st (st S 31 0 (S 0 0)) 31 1 (S 0 1)) 31 2 (S 0 2)) 31 3 (S 0 3)) 31 4 (S 0 4)
def szA (S : RW) (p : Nat) : RS := if fit S then .ok (szS S, p, 0) else .error (2, p)
def i0A (S : RW) (p : Nat) : RS := if S 30 0 = 0 then lp (inA b) 0 (S 0 1) S p else .ok (bdA S, p, 0)
def l0A (S : RW) (p : Nat) : RS := lp (fun k S p => if S 30 0 = 0 then laA b k S p else nxA b k S p) 0 (S 0 2) S p
def o0A (S : RW) (p : Nat) : RS := lp (ouA b) 0 (S 0 3) S p
def a0A (S : RW) (p : Nat) : RS := if S 30 0 = 0 then lp (anA b) 0 (S 0 4) S p else lp (dnA b) 0 (S 0 4) S p
end
