/-! the net: which graphs hang together -/
def hbT (n : Nat) : Nat := [0, 1, 2, 232, 18374403531500740736, 179766570382340750281730810060529395482484147729010547584922953557615143477549935634193095499290721666485820527705076665493092910963389727948943355641472342627162098630446335228094879067341158681233207391621878520683836155327099505361842395489776542603881062305745393553028982918430134177800976370145383448576].getD n 0
def prs (n : Nat) : Nat := n * (n - 1) / 2
def nL (n : Nat) : Int64 := Int64.ofNat n
def netOk (n m : Nat) : Bool := match (f_X9_layNet (nI m) (nI n) zS).bind (fun u => f_X9_hangs (nI n) u) with
  | some v => v == (if (hbT n).testBit m then 1 else 0)
  | none => false
set_option maxHeartbeats 16000000 in
theorem net_t1 : ∀ n, n < 5 → ∀ m, m < 2 ^ prs n → 1 ≤ n → netOk n m = true := by decide +kernel
set_option maxHeartbeats 16000000 in
theorem net_t5 : ∀ m, m < 1024 → netOk 5 m = true := by decide +kernel
theorem net_ok {n m : Nat} (h1 : 1 ≤ n) (h5 : n ≤ 5) (hm : m < 2 ^ prs n) : netOk n m = true := by
  by_cases e : n = 5
  · subst e; exact net_t5 m hm
  · exact net_t1 n (by omega) m hm h1
def acc (n t : Nat) : Nat → Nat
  | 0 => 0
  | m + 1 => acc n t m + (if (hbT n).testBit m then t ^ pbf 10 m * (10 - t) ^ (prs n - pbf 10 m) else 0)
def stT (n t : Nat) : Nat := (([[1, 1, 1, 1, 1, 1, 1, 1, 1, 1, 1], [0, 1, 2, 3, 4, 5, 6, 7, 8, 9, 10], [0, 28, 104, 216, 352, 500, 648, 784, 896, 972, 1000], [0, 12934, 82496, 218646, 400384, 593750, 765504, 892486, 966656, 995814, 1000000], [0, 80975224, 819454976, 2562604776, 4896538624, 7109375000, 8702567424, 9575130376, 9916645376, 9994922424, 10000000000]] : List (List Nat)).getD (n - 1) []).getD t 0
set_option maxHeartbeats 16000000 in
theorem acc_t : ∀ n, n < 5 → ∀ t, t < 11 → acc (n + 1) t (2 ^ prs (n + 1)) = stT (n + 1) t := by decide +kernel
