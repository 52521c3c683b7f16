/-! SCRIPTS packed into numbers -/
def zq_un : Nat → Nat → List Nat
  | 0, _ => []
  | f + 1, x => bif Nat.ble x 1 then [] else bif Nat.beq (x % 256) 255 then (x / 256 % 4722366482869645213696) :: zq_un f (x / 1208925819614629174706176) else (x % 256) :: zq_un f (x / 256)
def zq_unl : List Nat → List Nat
  | [] => []
  | x :: l => zq_un 1000 x ++ zq_unl l
