/-! SCRIPTS packed into numbers -/
noncomputable def zq_un (rest : List Nat) (f : Nat) : Nat → List Nat := Nat.rec (motive := fun _ => Nat → List Nat) (fun _ => rest) (fun _ ih x => Bool.rec (motive := fun _ => List Nat) (Bool.rec (motive := fun _ => List Nat) (Nat.mod x 256 :: ih (Nat.div x 256)) (Nat.mod (Nat.div x 256) 4722366482869645213696 :: ih (Nat.div x 1208925819614629174706176)) (Nat.beq (Nat.mod x 256) 255)) rest (Nat.ble x 1)) f
noncomputable def zq_unl (l : List Nat) : List Nat := List.rec (motive := fun _ => List Nat) [] (fun x _ ih => zq_un ih 1000 x) l
