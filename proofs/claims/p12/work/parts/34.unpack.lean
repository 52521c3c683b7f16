/-! SCRIPTS packed into numbers -/
def zq_un : Nat → Nat → List Nat
  | 0, _ => []
  | f + 1, x => bif Nat.ble x 1 then [] else bif Nat.beq (x % 256) 255 then (x / 256 % 4722366482869645213696) :: zq_un f (x / 1208925819614629174706176) else bif Nat.beq (x % 256) 254 then (x / 256 % 115792089237316195423570985008687907853269984665640564039457584007913129639936) :: zq_un f (x / 29642774844752946028434172162224104410437116074403984394101141506025761187823616) else (x % 256) :: zq_un f (x / 256)
def zq_unl : List Nat → List Nat
  | [] => []
  | x :: l => zq_un 1000 x ++ zq_unl l
