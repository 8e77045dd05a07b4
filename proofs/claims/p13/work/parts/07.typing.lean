section
/-- the type that is asked at a node: rt j of a root, gt p c of the place c of a call p -/
def et_et (N : Nat) (ar kd rt : Nat → Nat) (gt : Nat → Nat → Nat) (j : Nat) : Nat :=
  tr_fold N ar rt (fun p j e => if kd p = 2 then 0 else if kd p = 4 then (if tr_cx N ar p j = 0 then 0 else 1) else if kd p = 5 then gt p (tr_cx N ar p j)
    else if tr_cx N ar p j = 0 then (if kd p = 7 then 1 else 0) else e) j
variable {F N M : Nat} {bs ar kd ag z rt : Nat → Nat} {gt pt : Nat → Nat → Nat}
theorem et_none {j : Nat} (h : tr_pa N ar j = none) : et_et N ar kd rt gt j = rt j := tr_fold_none h
theorem et_some {j p : Nat} (h : tr_pa N ar j = some p) : et_et N ar kd rt gt j = (if kd p = 2 then 0 else if kd p = 4 then (if tr_cx N ar p j = 0 then 0 else 1) else if kd p = 5 then gt p (tr_cx N ar p j)
    else if tr_cx N ar p j = 0 then (if kd p = 7 then 1 else 0) else et_et N ar kd rt gt p) := tr_fold_some h
/-- a node's own type: ro n is the result type of the function that a call n names -/
def et_own (N : Nat) (ar kd ag z rt : Nat → Nat) (gt pt : Nat → Nat → Nat) (ro : Nat → Nat) (n : Nat) : Nat :=
  if kd n = 0 then ty_ty N ar kd z pt n (ag n) else if kd n = 1 ∨ kd n = 2 then 0 else if kd n = 3 ∨ kd n = 4 then 1 else if kd n = 5 then ro n else et_et N ar kd rt gt n
/-- how many of the nodes s, s + 1 .. (t of them) fulfil P -/
def ct_ct (P : Nat → Bool) (s : Nat) : Nat → Nat
  | 0 => 0
  | t + 1 => ct_ct P s t + (if P (s + t) then 1 else 0)
theorem ct_le (P : Nat → Bool) (s : Nat) : ∀ t, ct_ct P s t ≤ t
  | 0 => Nat.le_refl 0
  | t + 1 => by
    have := ct_le P s t
    rw [ct_ct]; split <;> omega
/-- the measure of a run: u for 'the value is not yet known' -/
def ms_ms (N : Nat) (ar : Nat → Nat) (b d n : Nat) (known : Bool) : Nat :=
  400 * (200 - b) + 200 * d + (if known then 2 * (64 - tr_se N ar n) + mc_td N ar n + 1 else 2 * (64 - n) + mc_td N ar n)
end
