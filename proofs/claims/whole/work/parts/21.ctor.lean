theorem st_0 (o : Nat) (σ : sM) : X5_startAt 10 o σ 0 = some (0, sU (sU (sU (sU σ (o + 1) 0 1) (o + 1) 1 0) (o + 1) 2 0) (o + 1) 3 0) := by rfl
def SS0 : sS := ([], fun _ _ => 0)
def SS1 : sS := (SS0.1 ++ [.inl (8, [.null, .int 0, .null, .null, .null, .null, .null, .null, .null, .null, .null, .null, .null, .null])], sUc SS0.2 SS0.1.length (fun _ => 0))
def SS2 : sS := (SS1.1 ++ [.inr (.byte, 400, fun _ => none)], sUc SS1.2 SS1.1.length (fun _ => 0))
def SS3 : sS := (SS2.1.set 0 (.inl (8, [.null, .int 0, .null, .null, .null, .null, .null, .null, .null, .null, .null, .null, .null, .null].set 0 (.ref 1))), SS2.2)
def SS4 : sS := (SS3.1, sU SS3.2 0 1 0)
def SS5 : sS := (SS4.1 ++ [.inl (1, [.null, .null, .null, .null, .null, .int 0, .int 0, .int 0, .int 0])], sUc SS4.2 SS4.1.length (fun _ => 0))
def SS6 : sS := (SS5.1 ++ [.inr (.array .int, 4, fun j => some (SS5.1.length + 1 + j)), .inr (.int, 14, fun _ => none), .inr (.int, 14, fun _ => none), .inr (.int, 14, fun _ => none), .inr (.int, 14, fun _ => none)], fun k j => if k < SS5.1.length then SS5.2 k j else 0)
def SS7 : sS := (SS6.1.set 2 (.inl (1, [.null, .null, .null, .null, .null, .int 0, .int 0, .int 0, .int 0].set 0 (.ref 3))), SS6.2)
def SS8 : sS := (SS7.1 ++ [.inr (.int, 3, fun _ => none)], sUc SS7.2 SS7.1.length (fun _ => 0))
def SS9 : sS := (SS8.1.set 2 (.inl (1, [.ref 3, .null, .null, .null, .null, .int 0, .int 0, .int 0, .int 0].set 1 (.ref 8))), SS8.2)
def SS10 : sS := (SS9.1 ++ [.inr (.int, 3, fun _ => none)], sUc SS9.2 SS9.1.length (fun _ => 0))
def SS11 : sS := (SS10.1.set 2 (.inl (1, [.ref 3, .ref 8, .null, .null, .null, .int 0, .int 0, .int 0, .int 0].set 2 (.ref 9))), SS10.2)
def SS12 : sS := (SS11.1 ++ [.inr (.int, 8, fun _ => none)], sUc SS11.2 SS11.1.length (fun _ => 0))
def SS13 : sS := (SS12.1.set 2 (.inl (1, [.ref 3, .ref 8, .ref 9, .null, .null, .int 0, .int 0, .int 0, .int 0].set 3 (.ref 10))), SS12.2)
def SS14 : sS := (SS13.1 ++ [.inr (.int, 8, fun _ => none)], sUc SS13.2 SS13.1.length (fun _ => 0))
def SS15 : sS := (SS14.1.set 2 (.inl (1, [.ref 3, .ref 8, .ref 9, .ref 10, .null, .int 0, .int 0, .int 0, .int 0].set 4 (.ref 11))), SS14.2)
def SS16 : sS := (SS15.1, sU SS15.2 2 5 0)
def SS17 : sS := (SS16.1, sU SS16.2 2 6 0)
def SS18 : sS := (SS17.1, sU SS17.2 2 7 6)
def SS19 : sS := (SS18.1, sU SS18.2 2 8 3)
def SS20 : sS := (SS19.1.set 0 (.inl (8, [.ref 1, .int 0, .null, .null, .null, .null, .null, .null, .null, .null, .null, .null, .null, .null].set 2 (.ref 2))), SS19.2)
def SS21 : sS := (SS20.1 ++ [.inl (1, [.null, .null, .null, .null, .null, .int 0, .int 0, .int 0, .int 0])], sUc SS20.2 SS20.1.length (fun _ => 0))
def SS22 : sS := (SS21.1 ++ [.inr (.array .int, 4, fun j => some (SS21.1.length + 1 + j)), .inr (.int, 14, fun _ => none), .inr (.int, 14, fun _ => none), .inr (.int, 14, fun _ => none), .inr (.int, 14, fun _ => none)], fun k j => if k < SS21.1.length then SS21.2 k j else 0)
def SS23 : sS := (SS22.1.set 12 (.inl (1, [.null, .null, .null, .null, .null, .int 0, .int 0, .int 0, .int 0].set 0 (.ref 13))), SS22.2)
def SS24 : sS := (SS23.1 ++ [.inr (.int, 3, fun _ => none)], sUc SS23.2 SS23.1.length (fun _ => 0))
def SS25 : sS := (SS24.1.set 12 (.inl (1, [.ref 13, .null, .null, .null, .null, .int 0, .int 0, .int 0, .int 0].set 1 (.ref 18))), SS24.2)
def SS26 : sS := (SS25.1 ++ [.inr (.int, 3, fun _ => none)], sUc SS25.2 SS25.1.length (fun _ => 0))
def SS27 : sS := (SS26.1.set 12 (.inl (1, [.ref 13, .ref 18, .null, .null, .null, .int 0, .int 0, .int 0, .int 0].set 2 (.ref 19))), SS26.2)
def SS28 : sS := (SS27.1 ++ [.inr (.int, 8, fun _ => none)], sUc SS27.2 SS27.1.length (fun _ => 0))
def SS29 : sS := (SS28.1.set 12 (.inl (1, [.ref 13, .ref 18, .ref 19, .null, .null, .int 0, .int 0, .int 0, .int 0].set 3 (.ref 20))), SS28.2)
def SS30 : sS := (SS29.1 ++ [.inr (.int, 8, fun _ => none)], sUc SS29.2 SS29.1.length (fun _ => 0))
def SS31 : sS := (SS30.1.set 12 (.inl (1, [.ref 13, .ref 18, .ref 19, .ref 20, .null, .int 0, .int 0, .int 0, .int 0].set 4 (.ref 21))), SS30.2)
def SS32 : sS := (SS31.1, sU SS31.2 12 5 0)
def SS33 : sS := (SS32.1, sU SS32.2 12 6 0)
def SS34 : sS := (SS33.1, sU SS33.2 12 7 6)
def SS35 : sS := (SS34.1, sU SS34.2 12 8 3)
def SS36 : sS := (SS35.1.set 0 (.inl (8, [.ref 1, .int 0, .ref 2, .null, .null, .null, .null, .null, .null, .null, .null, .null, .null, .null].set 3 (.ref 12))), SS35.2)
def SS37 : sS := (SS36.1 ++ [.inl (4, [.null, .null, .null, .null, .null, .int 0, .int 0, .int 0, .int 0])], sUc SS36.2 SS36.1.length (fun _ => 0))
def SS38 : sS := (SS37.1 ++ [.inr (.int, 401, fun _ => none)], sUc SS37.2 SS37.1.length (fun _ => 0))
def SS39 : sS := (SS38.1.set 22 (.inl (4, [.null, .null, .null, .null, .null, .int 0, .int 0, .int 0, .int 0].set 2 (.ref 23))), SS38.2)
def SS40 : sS := (SS39.1 ++ [.inr (.int, 401, fun _ => none)], sUc SS39.2 SS39.1.length (fun _ => 0))
def SS41 : sS := (SS40.1.set 22 (.inl (4, [.null, .null, .ref 23, .null, .null, .int 0, .int 0, .int 0, .int 0].set 3 (.ref 24))), SS40.2)
def SS42 : sS := (SS41.1 ++ [.inr (.int, 401, fun _ => none)], sUc SS41.2 SS41.1.length (fun _ => 0))
def SS43 : sS := (SS42.1.set 22 (.inl (4, [.null, .null, .ref 23, .ref 24, .null, .int 0, .int 0, .int 0, .int 0].set 4 (.ref 25))), SS42.2)
def SS44 : sS := (SS43.1, sU SS43.2 22 5 0)
def SS45 : sS := (SS44.1, sU SS44.2 22 6 0)
def SS46 : sS := (SS45.1, sU SS45.2 22 7 0)
def SS47 : sS := (SS46.1, sU SS46.2 22 8 0)
def SS48 : sS := (SS47.1.set 22 (.inl (4, [.null, .null, .ref 23, .ref 24, .ref 25, .int 0, .int 0, .int 0, .int 0].set 0 (.ref 1))), SS47.2)
def SS49 : sS := (SS48.1.set 22 (.inl (4, [.ref 1, .null, .ref 23, .ref 24, .ref 25, .int 0, .int 0, .int 0, .int 0].set 1 (.ref 12))), SS48.2)
def SS50 : sS := (SS49.1.set 0 (.inl (8, [.ref 1, .int 0, .ref 2, .ref 12, .null, .null, .null, .null, .null, .null, .null, .null, .null, .null].set 4 (.ref 22))), SS49.2)
def SS51 : sS := (SS50.1 ++ [.inl (7, [.int 0, .int 0, .int 0, .int 0, .int 0, .int 0, .int 0, .int 0])], sUc SS50.2 SS50.1.length (fun _ => 0))
def SS52 : sS := (SS51.1, sU SS51.2 26 0 0)
def SS53 : sS := (SS52.1, sU SS52.2 26 1 0)
def SS54 : sS := (SS53.1, sU SS53.2 26 2 0)
def SS55 : sS := (SS54.1, sU SS54.2 26 3 0)
def SS56 : sS := (SS55.1, sU SS55.2 26 4 0)
def SS57 : sS := (SS56.1, sU SS56.2 26 5 0)
def SS58 : sS := (SS57.1, sU SS57.2 26 6 0)
def SS59 : sS := (SS58.1, sU SS58.2 26 7 0)
def SS60 : sS := (SS59.1.set 0 (.inl (8, [.ref 1, .int 0, .ref 2, .ref 12, .ref 22, .null, .null, .null, .null, .null, .null, .null, .null, .null].set 5 (.ref 26))), SS59.2)
def SS61 : sS := (SS60.1 ++ [.inl (7, [.int 0, .int 0, .int 0, .int 0, .int 0, .int 0, .int 0, .int 0])], sUc SS60.2 SS60.1.length (fun _ => 0))
def SS62 : sS := (SS61.1, sU SS61.2 27 0 0)
def SS63 : sS := (SS62.1, sU SS62.2 27 1 0)
def SS64 : sS := (SS63.1, sU SS63.2 27 2 0)
def SS65 : sS := (SS64.1, sU SS64.2 27 3 0)
def SS66 : sS := (SS65.1, sU SS65.2 27 4 0)
def SS67 : sS := (SS66.1, sU SS66.2 27 5 0)
def SS68 : sS := (SS67.1, sU SS67.2 27 6 0)
def SS69 : sS := (SS68.1, sU SS68.2 27 7 0)
def SS70 : sS := (SS69.1.set 0 (.inl (8, [.ref 1, .int 0, .ref 2, .ref 12, .ref 22, .ref 26, .null, .null, .null, .null, .null, .null, .null, .null].set 6 (.ref 27))), SS69.2)
def SS71 : sS := (SS70.1 ++ [.inl (7, [.int 0, .int 0, .int 0, .int 0, .int 0, .int 0, .int 0, .int 0])], sUc SS70.2 SS70.1.length (fun _ => 0))
def SS72 : sS := (SS71.1, sU SS71.2 28 0 0)
def SS73 : sS := (SS72.1, sU SS72.2 28 1 0)
def SS74 : sS := (SS73.1, sU SS73.2 28 2 0)
def SS75 : sS := (SS74.1, sU SS74.2 28 3 0)
def SS76 : sS := (SS75.1, sU SS75.2 28 4 0)
def SS77 : sS := (SS76.1, sU SS76.2 28 5 0)
def SS78 : sS := (SS77.1, sU SS77.2 28 6 0)
def SS79 : sS := (SS78.1, sU SS78.2 28 7 0)
def SS80 : sS := (SS79.1.set 0 (.inl (8, [.ref 1, .int 0, .ref 2, .ref 12, .ref 22, .ref 26, .ref 27, .null, .null, .null, .null, .null, .null, .null].set 7 (.ref 28))), SS79.2)
def SS81 : sS := (SS80.1 ++ [.inl (3, [.null, .int 0, .int 0, .null, .int 0, .long 0, .null, .null, .null])], sUc SS80.2 SS80.1.length (fun _ => 0))
def SS82 : sS := (SS81.1, sU SS81.2 29 1 0)
def SS83 : sS := (SS82.1, sU SS82.2 29 2 0)
def SS84 : sS := (SS83.1 ++ [.inr (.int, 48, fun _ => none)], sUc SS83.2 SS83.1.length (fun _ => 0))
def SS85 : sS := (SS84.1.set 29 (.inl (3, [.null, .int 0, .int 0, .null, .int 0, .long 0, .null, .null, .null].set 3 (.ref 30))), SS84.2)
def SS86 : sS := (SS85.1, sU SS85.2 29 4 1)
def SS87 : sS := (SS86.1, sU SS86.2 29 5 1)
def SS88 : sS := (SS87.1 ++ [.inr (.long, 0, fun _ => none)], sUc SS87.2 SS87.1.length (fun _ => 0))
def SS89 : sS := (SS88.1.set 29 (.inl (3, [.null, .int 0, .int 0, .ref 30, .int 0, .long 0, .null, .null, .null].set 6 (.ref 31))), SS88.2)
def SS90 : sS := (SS89.1 ++ [.inr (.long, 0, fun _ => none)], sUc SS89.2 SS89.1.length (fun _ => 0))
def SS91 : sS := (SS90.1.set 29 (.inl (3, [.null, .int 0, .int 0, .ref 30, .int 0, .long 0, .ref 31, .null, .null].set 7 (.ref 32))), SS90.2)
def SS92 : sS := (SS91.1 ++ [.inr (.long, 0, fun _ => none)], sUc SS91.2 SS91.1.length (fun _ => 0))
def SS93 : sS := (SS92.1.set 29 (.inl (3, [.null, .int 0, .int 0, .ref 30, .int 0, .long 0, .ref 31, .ref 32, .null].set 8 (.ref 33))), SS92.2)
def SS94 : sS := (SS93.1.set 29 (.inl (3, [.null, .int 0, .int 0, .ref 30, .int 0, .long 0, .ref 31, .ref 32, .ref 33].set 0 (.ref 2))), SS93.2)
def SS95 : sS := (SS94.1.set 0 (.inl (8, [.ref 1, .int 0, .ref 2, .ref 12, .ref 22, .ref 26, .ref 27, .ref 28, .null, .null, .null, .null, .null, .null].set 8 (.ref 29))), SS94.2)
def SS96 : sS := (SS95.1 ++ [.inl (3, [.null, .int 0, .int 0, .null, .int 0, .long 0, .null, .null, .null])], sUc SS95.2 SS95.1.length (fun _ => 0))
def SS97 : sS := (SS96.1, sU SS96.2 34 1 0)
def SS98 : sS := (SS97.1, sU SS97.2 34 2 0)
def SS99 : sS := (SS98.1 ++ [.inr (.int, 48, fun _ => none)], sUc SS98.2 SS98.1.length (fun _ => 0))
def SS100 : sS := (SS99.1.set 34 (.inl (3, [.null, .int 0, .int 0, .null, .int 0, .long 0, .null, .null, .null].set 3 (.ref 35))), SS99.2)
def SS101 : sS := (SS100.1, sU SS100.2 34 4 1)
def SS102 : sS := (SS101.1, sU SS101.2 34 5 1)
def SS103 : sS := (SS102.1 ++ [.inr (.long, 0, fun _ => none)], sUc SS102.2 SS102.1.length (fun _ => 0))
def SS104 : sS := (SS103.1.set 34 (.inl (3, [.null, .int 0, .int 0, .ref 35, .int 0, .long 0, .null, .null, .null].set 6 (.ref 36))), SS103.2)
def SS105 : sS := (SS104.1 ++ [.inr (.long, 0, fun _ => none)], sUc SS104.2 SS104.1.length (fun _ => 0))
def SS106 : sS := (SS105.1.set 34 (.inl (3, [.null, .int 0, .int 0, .ref 35, .int 0, .long 0, .ref 36, .null, .null].set 7 (.ref 37))), SS105.2)
def SS107 : sS := (SS106.1 ++ [.inr (.long, 0, fun _ => none)], sUc SS106.2 SS106.1.length (fun _ => 0))
def SS108 : sS := (SS107.1.set 34 (.inl (3, [.null, .int 0, .int 0, .ref 35, .int 0, .long 0, .ref 36, .ref 37, .null].set 8 (.ref 38))), SS107.2)
def SS109 : sS := (SS108.1.set 34 (.inl (3, [.null, .int 0, .int 0, .ref 35, .int 0, .long 0, .ref 36, .ref 37, .ref 38].set 0 (.ref 2))), SS108.2)
def SS110 : sS := (SS109.1.set 0 (.inl (8, [.ref 1, .int 0, .ref 2, .ref 12, .ref 22, .ref 26, .ref 27, .ref 28, .ref 29, .null, .null, .null, .null, .null].set 9 (.ref 34))), SS109.2)
def SS111 : sS := (SS110.1 ++ [.inl (0, [.null, .null, .null, .null, .null, .null, .null, .null, .int 0, .int 0, .int 0, .int 0, .int 0, .int 0, .int 0, .int 0])], sUc SS110.2 SS110.1.length (fun _ => 0))
def SS112 : sS := (SS111.1 ++ [.inl (5, [.null])], sUc SS111.2 SS111.1.length (fun _ => 0))
def SS113 : sS := (SS112.1 ++ [.inr (.long, 4, fun _ => none)], sUc SS112.2 SS112.1.length (fun _ => 0))
def SS114 : sS := (SS113.1.set 40 (.inl (5, [.null].set 0 (.ref 41))), SS113.2)
def SS115 : sS := (SS114.1.set 39 (.inl (0, [.null, .null, .null, .null, .null, .null, .null, .null, .int 0, .int 0, .int 0, .int 0, .int 0, .int 0, .int 0, .int 0].set 1 (.ref 40))), SS114.2)
def SS116 : sS := (SS115.1 ++ [.inl (5, [.null])], sUc SS115.2 SS115.1.length (fun _ => 0))
def SS117 : sS := (SS116.1 ++ [.inr (.long, 4, fun _ => none)], sUc SS116.2 SS116.1.length (fun _ => 0))
def SS118 : sS := (SS117.1.set 42 (.inl (5, [.null].set 0 (.ref 43))), SS117.2)
def SS119 : sS := (SS118.1.set 39 (.inl (0, [.null, .ref 40, .null, .null, .null, .null, .null, .null, .int 0, .int 0, .int 0, .int 0, .int 0, .int 0, .int 0, .int 0].set 2 (.ref 42))), SS118.2)
def SS120 : sS := (SS119.1 ++ [.inr (.int, 192, fun _ => none)], sUc SS119.2 SS119.1.length (fun _ => 0))
def SS121 : sS := (SS120.1.set 39 (.inl (0, [.null, .ref 40, .ref 42, .null, .null, .null, .null, .null, .int 0, .int 0, .int 0, .int 0, .int 0, .int 0, .int 0, .int 0].set 3 (.ref 44))), SS120.2)
def SS122 : sS := (SS121.1 ++ [.inr (.int, 9, fun _ => none)], sUc SS121.2 SS121.1.length (fun _ => 0))
def SS123 : sS := (SS122.1.set 39 (.inl (0, [.null, .ref 40, .ref 42, .ref 44, .null, .null, .null, .null, .int 0, .int 0, .int 0, .int 0, .int 0, .int 0, .int 0, .int 0].set 4 (.ref 45))), SS122.2)
def SS124 : sS := (SS123.1 ++ [.inr (.int, 3, fun _ => none)], sUc SS123.2 SS123.1.length (fun _ => 0))
def SS125 : sS := (SS124.1.set 39 (.inl (0, [.null, .ref 40, .ref 42, .ref 44, .ref 45, .null, .null, .null, .int 0, .int 0, .int 0, .int 0, .int 0, .int 0, .int 0, .int 0].set 5 (.ref 46))), SS124.2)
def SS126 : sS := (SS125.1 ++ [.inr (.int, 8, fun _ => none)], sUc SS125.2 SS125.1.length (fun _ => 0))
def SS127 : sS := (SS126.1.set 39 (.inl (0, [.null, .ref 40, .ref 42, .ref 44, .ref 45, .ref 46, .null, .null, .int 0, .int 0, .int 0, .int 0, .int 0, .int 0, .int 0, .int 0].set 6 (.ref 47))), SS126.2)
def SS128 : sS := (SS127.1 ++ [.inr (.int, 8, fun _ => none)], sUc SS127.2 SS127.1.length (fun _ => 0))
def SS129 : sS := (SS128.1.set 39 (.inl (0, [.null, .ref 40, .ref 42, .ref 44, .ref 45, .ref 46, .ref 47, .null, .int 0, .int 0, .int 0, .int 0, .int 0, .int 0, .int 0, .int 0].set 7 (.ref 48))), SS128.2)
def SS130 : sS := (SS129.1, sU SS129.2 39 8 0)
def SS131 : sS := (SS130.1, sU SS130.2 39 9 0)
def SS132 : sS := (SS131.1, sU SS131.2 39 10 0)
def SS133 : sS := (SS132.1, sU SS132.2 39 11 0)
def SS134 : sS := (SS133.1, sU SS133.2 39 12 0)
def SS135 : sS := (SS134.1, sU SS134.2 39 13 0)
def SS136 : sS := (SS135.1, sU SS135.2 39 14 0)
def SS137 : sS := (SS136.1, sU SS136.2 39 15 0)
def SS138 : sS := (SS137.1.set 39 (.inl (0, [.null, .ref 40, .ref 42, .ref 44, .ref 45, .ref 46, .ref 47, .ref 48, .int 0, .int 0, .int 0, .int 0, .int 0, .int 0, .int 0, .int 0].set 0 (.ref 2))), SS137.2)
def SS139 : sS := (SS138.1.set 0 (.inl (8, [.ref 1, .int 0, .ref 2, .ref 12, .ref 22, .ref 26, .ref 27, .ref 28, .ref 29, .ref 34, .null, .null, .null, .null].set 10 (.ref 39))), SS138.2)
def SS140 : sS := (SS139.1 ++ [.inl (5, [.null])], sUc SS139.2 SS139.1.length (fun _ => 0))
def SS141 : sS := (SS140.1 ++ [.inr (.long, 4, fun _ => none)], sUc SS140.2 SS140.1.length (fun _ => 0))
def SS142 : sS := (SS141.1.set 49 (.inl (5, [.null].set 0 (.ref 50))), SS141.2)
def SS143 : sS := (SS142.1.set 0 (.inl (8, [.ref 1, .int 0, .ref 2, .ref 12, .ref 22, .ref 26, .ref 27, .ref 28, .ref 29, .ref 34, .ref 39, .null, .null, .null].set 11 (.ref 49))), SS142.2)
def SS144 : sS := (SS143.1 ++ [.inl (6, [.null, .null, .null, .int 0])], sUc SS143.2 SS143.1.length (fun _ => 0))
def SS145 : sS := (SS144.1 ++ [.inl (5, [.null])], sUc SS144.2 SS144.1.length (fun _ => 0))
def SS146 : sS := (SS145.1 ++ [.inr (.long, 4, fun _ => none)], sUc SS145.2 SS145.1.length (fun _ => 0))
def SS147 : sS := (SS146.1.set 52 (.inl (5, [.null].set 0 (.ref 53))), SS146.2)
def SS148 : sS := (SS147.1.set 51 (.inl (6, [.null, .null, .null, .int 0].set 1 (.ref 52))), SS147.2)
def SS149 : sS := (SS148.1 ++ [.inl (5, [.null])], sUc SS148.2 SS148.1.length (fun _ => 0))
def SS150 : sS := (SS149.1 ++ [.inr (.long, 4, fun _ => none)], sUc SS149.2 SS149.1.length (fun _ => 0))
def SS151 : sS := (SS150.1.set 54 (.inl (5, [.null].set 0 (.ref 55))), SS150.2)
def SS152 : sS := (SS151.1.set 51 (.inl (6, [.null, .ref 52, .null, .int 0].set 2 (.ref 54))), SS151.2)
def SS153 : sS := (SS152.1, sU SS152.2 51 3 0)
def SS154 : sS := (SS153.1.set 51 (.inl (6, [.null, .ref 52, .ref 54, .int 0].set 0 (.ref 2))), SS153.2)
def SS155 : sS := (SS154.1, sU (sU (sU (sU SS154.2 (52 + 1) 0 1) (52 + 1) 1 0) (52 + 1) 2 0) (52 + 1) 3 0)
def SS156 : sS := (SS155.1.set 0 (.inl (8, [.ref 1, .int 0, .ref 2, .ref 12, .ref 22, .ref 26, .ref 27, .ref 28, .ref 29, .ref 34, .ref 39, .ref 49, .null, .null].set 12 (.ref 51))), SS155.2)
def SS157 : sS := (SS156.1 ++ [.inl (2, [.null, .long 0])], sUc SS156.2 SS156.1.length (fun _ => 0))
def SS158 : sS := (SS157.1, sU SS157.2 56 1 0)
def SS159 : sS := (SS158.1.set 56 (.inl (2, [.null, .long 0].set 0 (.ref 2))), SS158.2)
def SS160 : sS := (SS159.1.set 0 (.inl (8, [.ref 1, .int 0, .ref 2, .ref 12, .ref 22, .ref 26, .ref 27, .ref 28, .ref 29, .ref 34, .ref 39, .ref 49, .ref 51, .null].set 13 (.ref 56))), SS159.2)
def SS161 : sS := (SS160.1, sU SS160.2 26 6 1)
def SS162 : sS := (SS161.1 ++ [.inl (9, [.long 0, .null, .int 0, .null, .null, .null, .null, .null, .null, .null, .null, .null, .int 0, .int 0, .int 0, .int 0, .int 0, .null, .null, .null, .null, .null, .null, .null, .null, .null, .null, .null, .null, .null, .null, .null, .null, .null, .null, .null, .int 0, .null])], sUc SS161.2 SS161.1.length (fun _ => 0))
def SS163 : sS := (SS162.1 ++ [.inr (.byte, 400, fun _ => none)], sUc SS162.2 SS162.1.length (fun _ => 0))
def SS164 : sS := (SS163.1.set 57 (.inl (9, [.long 0, .null, .int 0, .null, .null, .null, .null, .null, .null, .null, .null, .null, .int 0, .int 0, .int 0, .int 0, .int 0, .null, .null, .null, .null, .null, .null, .null, .null, .null, .null, .null, .null, .null, .null, .null, .null, .null, .null, .null, .int 0, .null].set 1 (.ref 58))), SS163.2)
def SS165 : sS := (SS164.1 ++ [.inr (.int, 2, fun _ => none)], sUc SS164.2 SS164.1.length (fun _ => 0))
def SS166 : sS := (SS165.1.set 57 (.inl (9, [.long 0, .ref 58, .int 0, .null, .null, .null, .null, .null, .null, .null, .null, .null, .int 0, .int 0, .int 0, .int 0, .int 0, .null, .null, .null, .null, .null, .null, .null, .null, .null, .null, .null, .null, .null, .null, .null, .null, .null, .null, .null, .int 0, .null].set 3 (.ref 59))), SS165.2)
def SS167 : sS := (SS166.1 ++ [.inr (.int, 2, fun _ => none)], sUc SS166.2 SS166.1.length (fun _ => 0))
def SS168 : sS := (SS167.1.set 57 (.inl (9, [.long 0, .ref 58, .int 0, .ref 59, .null, .null, .null, .null, .null, .null, .null, .null, .int 0, .int 0, .int 0, .int 0, .int 0, .null, .null, .null, .null, .null, .null, .null, .null, .null, .null, .null, .null, .null, .null, .null, .null, .null, .null, .null, .int 0, .null].set 4 (.ref 60))), SS167.2)
def SS169 : sS := (SS168.1 ++ [.inr (.int, 2, fun _ => none)], sUc SS168.2 SS168.1.length (fun _ => 0))
def SS170 : sS := (SS169.1.set 57 (.inl (9, [.long 0, .ref 58, .int 0, .ref 59, .ref 60, .null, .null, .null, .null, .null, .null, .null, .int 0, .int 0, .int 0, .int 0, .int 0, .null, .null, .null, .null, .null, .null, .null, .null, .null, .null, .null, .null, .null, .null, .null, .null, .null, .null, .null, .int 0, .null].set 5 (.ref 61))), SS169.2)
def SS171 : sS := (SS170.1 ++ [.inr (.int, 2, fun _ => none)], sUc SS170.2 SS170.1.length (fun _ => 0))
def SS172 : sS := (SS171.1.set 57 (.inl (9, [.long 0, .ref 58, .int 0, .ref 59, .ref 60, .ref 61, .null, .null, .null, .null, .null, .null, .int 0, .int 0, .int 0, .int 0, .int 0, .null, .null, .null, .null, .null, .null, .null, .null, .null, .null, .null, .null, .null, .null, .null, .null, .null, .null, .null, .int 0, .null].set 6 (.ref 62))), SS171.2)
def SS173 : sS := (SS172.1 ++ [.inr (.int, 112, fun _ => none)], sUc SS172.2 SS172.1.length (fun _ => 0))
def SS174 : sS := (SS173.1.set 57 (.inl (9, [.long 0, .ref 58, .int 0, .ref 59, .ref 60, .ref 61, .ref 62, .null, .null, .null, .null, .null, .int 0, .int 0, .int 0, .int 0, .int 0, .null, .null, .null, .null, .null, .null, .null, .null, .null, .null, .null, .null, .null, .null, .null, .null, .null, .null, .null, .int 0, .null].set 7 (.ref 63))), SS173.2)
def SS175 : sS := (SS174.1 ++ [.inr (.int, 6, fun _ => none)], sUc SS174.2 SS174.1.length (fun _ => 0))
def SS176 : sS := (SS175.1.set 57 (.inl (9, [.long 0, .ref 58, .int 0, .ref 59, .ref 60, .ref 61, .ref 62, .ref 63, .null, .null, .null, .null, .int 0, .int 0, .int 0, .int 0, .int 0, .null, .null, .null, .null, .null, .null, .null, .null, .null, .null, .null, .null, .null, .null, .null, .null, .null, .null, .null, .int 0, .null].set 8 (.ref 64))), SS175.2)
def SS177 : sS := (SS176.1 ++ [.inr (.int, 6, fun _ => none)], sUc SS176.2 SS176.1.length (fun _ => 0))
def SS178 : sS := (SS177.1.set 57 (.inl (9, [.long 0, .ref 58, .int 0, .ref 59, .ref 60, .ref 61, .ref 62, .ref 63, .ref 64, .null, .null, .null, .int 0, .int 0, .int 0, .int 0, .int 0, .null, .null, .null, .null, .null, .null, .null, .null, .null, .null, .null, .null, .null, .null, .null, .null, .null, .null, .null, .int 0, .null].set 9 (.ref 65))), SS177.2)
def SS179 : sS := (SS178.1 ++ [.inr (.int, 16, fun _ => none)], sUc SS178.2 SS178.1.length (fun _ => 0))
def SS180 : sS := (SS179.1.set 57 (.inl (9, [.long 0, .ref 58, .int 0, .ref 59, .ref 60, .ref 61, .ref 62, .ref 63, .ref 64, .ref 65, .null, .null, .int 0, .int 0, .int 0, .int 0, .int 0, .null, .null, .null, .null, .null, .null, .null, .null, .null, .null, .null, .null, .null, .null, .null, .null, .null, .null, .null, .int 0, .null].set 10 (.ref 66))), SS179.2)
def SS181 : sS := (SS180.1 ++ [.inr (.int, 16, fun _ => none)], sUc SS180.2 SS180.1.length (fun _ => 0))
def SS182 : sS := (SS181.1.set 57 (.inl (9, [.long 0, .ref 58, .int 0, .ref 59, .ref 60, .ref 61, .ref 62, .ref 63, .ref 64, .ref 65, .ref 66, .null, .int 0, .int 0, .int 0, .int 0, .int 0, .null, .null, .null, .null, .null, .null, .null, .null, .null, .null, .null, .null, .null, .null, .null, .null, .null, .null, .null, .int 0, .null].set 11 (.ref 67))), SS181.2)
def SS183 : sS := (SS182.1 ++ [.inr (.int, 3, fun _ => none)], sUc SS182.2 SS182.1.length (fun _ => 0))
def SS184 : sS := (SS183.1.set 57 (.inl (9, [.long 0, .ref 58, .int 0, .ref 59, .ref 60, .ref 61, .ref 62, .ref 63, .ref 64, .ref 65, .ref 66, .ref 67, .int 0, .int 0, .int 0, .int 0, .int 0, .null, .null, .null, .null, .null, .null, .null, .null, .null, .null, .null, .null, .null, .null, .null, .null, .null, .null, .null, .int 0, .null].set 17 (.ref 68))), SS183.2)
def SS185 : sS := (SS184.1 ++ [.inr (.boolean, 3, fun _ => none)], sUc SS184.2 SS184.1.length (fun _ => 0))
def SS186 : sS := (SS185.1.set 57 (.inl (9, [.long 0, .ref 58, .int 0, .ref 59, .ref 60, .ref 61, .ref 62, .ref 63, .ref 64, .ref 65, .ref 66, .ref 67, .int 0, .int 0, .int 0, .int 0, .int 0, .ref 68, .null, .null, .null, .null, .null, .null, .null, .null, .null, .null, .null, .null, .null, .null, .null, .null, .null, .null, .int 0, .null].set 18 (.ref 69))), SS185.2)
def SS187 : sS := (SS186.1 ++ [.inr (.int, 3, fun _ => none)], sUc SS186.2 SS186.1.length (fun _ => 0))
def SS188 : sS := (SS187.1.set 57 (.inl (9, [.long 0, .ref 58, .int 0, .ref 59, .ref 60, .ref 61, .ref 62, .ref 63, .ref 64, .ref 65, .ref 66, .ref 67, .int 0, .int 0, .int 0, .int 0, .int 0, .ref 68, .ref 69, .null, .null, .null, .null, .null, .null, .null, .null, .null, .null, .null, .null, .null, .null, .null, .null, .null, .int 0, .null].set 19 (.ref 70))), SS187.2)
def SS189 : sS := (SS188.1 ++ [.inr (.int, 3, fun _ => none)], sUc SS188.2 SS188.1.length (fun _ => 0))
def SS190 : sS := (SS189.1.set 57 (.inl (9, [.long 0, .ref 58, .int 0, .ref 59, .ref 60, .ref 61, .ref 62, .ref 63, .ref 64, .ref 65, .ref 66, .ref 67, .int 0, .int 0, .int 0, .int 0, .int 0, .ref 68, .ref 69, .ref 70, .null, .null, .null, .null, .null, .null, .null, .null, .null, .null, .null, .null, .null, .null, .null, .null, .int 0, .null].set 20 (.ref 71))), SS189.2)
def SS191 : sS := (SS190.1 ++ [.inr (.int, 3, fun _ => none)], sUc SS190.2 SS190.1.length (fun _ => 0))
def SS192 : sS := (SS191.1.set 57 (.inl (9, [.long 0, .ref 58, .int 0, .ref 59, .ref 60, .ref 61, .ref 62, .ref 63, .ref 64, .ref 65, .ref 66, .ref 67, .int 0, .int 0, .int 0, .int 0, .int 0, .ref 68, .ref 69, .ref 70, .ref 71, .null, .null, .null, .null, .null, .null, .null, .null, .null, .null, .null, .null, .null, .null, .null, .int 0, .null].set 21 (.ref 72))), SS191.2)
def SS193 : sS := (SS192.1 ++ [.inr (.int, 9, fun _ => none)], sUc SS192.2 SS192.1.length (fun _ => 0))
def SS194 : sS := (SS193.1.set 57 (.inl (9, [.long 0, .ref 58, .int 0, .ref 59, .ref 60, .ref 61, .ref 62, .ref 63, .ref 64, .ref 65, .ref 66, .ref 67, .int 0, .int 0, .int 0, .int 0, .int 0, .ref 68, .ref 69, .ref 70, .ref 71, .ref 72, .null, .null, .null, .null, .null, .null, .null, .null, .null, .null, .null, .null, .null, .null, .int 0, .null].set 22 (.ref 73))), SS193.2)
def SS195 : sS := (SS194.1 ++ [.inr (.int, 9, fun _ => none)], sUc SS194.2 SS194.1.length (fun _ => 0))
def SS196 : sS := (SS195.1.set 57 (.inl (9, [.long 0, .ref 58, .int 0, .ref 59, .ref 60, .ref 61, .ref 62, .ref 63, .ref 64, .ref 65, .ref 66, .ref 67, .int 0, .int 0, .int 0, .int 0, .int 0, .ref 68, .ref 69, .ref 70, .ref 71, .ref 72, .ref 73, .null, .null, .null, .null, .null, .null, .null, .null, .null, .null, .null, .null, .null, .int 0, .null].set 23 (.ref 74))), SS195.2)
def SS197 : sS := (SS196.1 ++ [.inr (.boolean, 9, fun _ => none)], sUc SS196.2 SS196.1.length (fun _ => 0))
def SS198 : sS := (SS197.1.set 57 (.inl (9, [.long 0, .ref 58, .int 0, .ref 59, .ref 60, .ref 61, .ref 62, .ref 63, .ref 64, .ref 65, .ref 66, .ref 67, .int 0, .int 0, .int 0, .int 0, .int 0, .ref 68, .ref 69, .ref 70, .ref 71, .ref 72, .ref 73, .ref 74, .null, .null, .null, .null, .null, .null, .null, .null, .null, .null, .null, .null, .int 0, .null].set 24 (.ref 75))), SS197.2)
def SS199 : sS := (SS198.1 ++ [.inr (.boolean, 2, fun _ => none)], sUc SS198.2 SS198.1.length (fun _ => 0))
def SS200 : sS := (SS199.1.set 57 (.inl (9, [.long 0, .ref 58, .int 0, .ref 59, .ref 60, .ref 61, .ref 62, .ref 63, .ref 64, .ref 65, .ref 66, .ref 67, .int 0, .int 0, .int 0, .int 0, .int 0, .ref 68, .ref 69, .ref 70, .ref 71, .ref 72, .ref 73, .ref 74, .ref 75, .null, .null, .null, .null, .null, .null, .null, .null, .null, .null, .null, .int 0, .null].set 25 (.ref 76))), SS199.2)
def SS201 : sS := (SS200.1 ++ [.inr (.int, 4096, fun _ => none)], sUc SS200.2 SS200.1.length (fun _ => 0))
def SS202 : sS := (SS201.1.set 57 (.inl (9, [.long 0, .ref 58, .int 0, .ref 59, .ref 60, .ref 61, .ref 62, .ref 63, .ref 64, .ref 65, .ref 66, .ref 67, .int 0, .int 0, .int 0, .int 0, .int 0, .ref 68, .ref 69, .ref 70, .ref 71, .ref 72, .ref 73, .ref 74, .ref 75, .ref 76, .null, .null, .null, .null, .null, .null, .null, .null, .null, .null, .int 0, .null].set 26 (.ref 77))), SS201.2)
def SS203 : sS := (SS202.1 ++ [.inr (.int, 4096, fun _ => none)], sUc SS202.2 SS202.1.length (fun _ => 0))
def SS204 : sS := (SS203.1.set 57 (.inl (9, [.long 0, .ref 58, .int 0, .ref 59, .ref 60, .ref 61, .ref 62, .ref 63, .ref 64, .ref 65, .ref 66, .ref 67, .int 0, .int 0, .int 0, .int 0, .int 0, .ref 68, .ref 69, .ref 70, .ref 71, .ref 72, .ref 73, .ref 74, .ref 75, .ref 76, .ref 77, .null, .null, .null, .null, .null, .null, .null, .null, .null, .int 0, .null].set 27 (.ref 78))), SS203.2)
def SS205 : sS := (SS204.1 ++ [.inr (.int, 4096, fun _ => none)], sUc SS204.2 SS204.1.length (fun _ => 0))
def SS206 : sS := (SS205.1.set 57 (.inl (9, [.long 0, .ref 58, .int 0, .ref 59, .ref 60, .ref 61, .ref 62, .ref 63, .ref 64, .ref 65, .ref 66, .ref 67, .int 0, .int 0, .int 0, .int 0, .int 0, .ref 68, .ref 69, .ref 70, .ref 71, .ref 72, .ref 73, .ref 74, .ref 75, .ref 76, .ref 77, .ref 78, .null, .null, .null, .null, .null, .null, .null, .null, .int 0, .null].set 28 (.ref 79))), SS205.2)
def SS207 : sS := (SS206.1 ++ [.inr (.int, 4096, fun _ => none)], sUc SS206.2 SS206.1.length (fun _ => 0))
def SS208 : sS := (SS207.1.set 57 (.inl (9, [.long 0, .ref 58, .int 0, .ref 59, .ref 60, .ref 61, .ref 62, .ref 63, .ref 64, .ref 65, .ref 66, .ref 67, .int 0, .int 0, .int 0, .int 0, .int 0, .ref 68, .ref 69, .ref 70, .ref 71, .ref 72, .ref 73, .ref 74, .ref 75, .ref 76, .ref 77, .ref 78, .ref 79, .null, .null, .null, .null, .null, .null, .null, .int 0, .null].set 29 (.ref 80))), SS207.2)
def SS209 : sS := (SS208.1 ++ [.inr (.int, 216, fun _ => none)], sUc SS208.2 SS208.1.length (fun _ => 0))
def SS210 : sS := (SS209.1.set 57 (.inl (9, [.long 0, .ref 58, .int 0, .ref 59, .ref 60, .ref 61, .ref 62, .ref 63, .ref 64, .ref 65, .ref 66, .ref 67, .int 0, .int 0, .int 0, .int 0, .int 0, .ref 68, .ref 69, .ref 70, .ref 71, .ref 72, .ref 73, .ref 74, .ref 75, .ref 76, .ref 77, .ref 78, .ref 79, .ref 80, .null, .null, .null, .null, .null, .null, .int 0, .null].set 30 (.ref 81))), SS209.2)
def SS211 : sS := (SS210.1 ++ [.inr (.int, 8, fun _ => none)], sUc SS210.2 SS210.1.length (fun _ => 0))
def SS212 : sS := (SS211.1.set 57 (.inl (9, [.long 0, .ref 58, .int 0, .ref 59, .ref 60, .ref 61, .ref 62, .ref 63, .ref 64, .ref 65, .ref 66, .ref 67, .int 0, .int 0, .int 0, .int 0, .int 0, .ref 68, .ref 69, .ref 70, .ref 71, .ref 72, .ref 73, .ref 74, .ref 75, .ref 76, .ref 77, .ref 78, .ref 79, .ref 80, .ref 81, .null, .null, .null, .null, .null, .int 0, .null].set 31 (.ref 82))), SS211.2)
def SS213 : sS := (SS212.1 ++ [.inr (.int, 8, fun _ => none)], sUc SS212.2 SS212.1.length (fun _ => 0))
def SS214 : sS := (SS213.1.set 57 (.inl (9, [.long 0, .ref 58, .int 0, .ref 59, .ref 60, .ref 61, .ref 62, .ref 63, .ref 64, .ref 65, .ref 66, .ref 67, .int 0, .int 0, .int 0, .int 0, .int 0, .ref 68, .ref 69, .ref 70, .ref 71, .ref 72, .ref 73, .ref 74, .ref 75, .ref 76, .ref 77, .ref 78, .ref 79, .ref 80, .ref 81, .ref 82, .null, .null, .null, .null, .int 0, .null].set 32 (.ref 83))), SS213.2)
def SS215 : sS := (SS214.1 ++ [.inr (.int, 3, fun _ => none)], sUc SS214.2 SS214.1.length (fun _ => 0))
def SS216 : sS := (SS215.1.set 57 (.inl (9, [.long 0, .ref 58, .int 0, .ref 59, .ref 60, .ref 61, .ref 62, .ref 63, .ref 64, .ref 65, .ref 66, .ref 67, .int 0, .int 0, .int 0, .int 0, .int 0, .ref 68, .ref 69, .ref 70, .ref 71, .ref 72, .ref 73, .ref 74, .ref 75, .ref 76, .ref 77, .ref 78, .ref 79, .ref 80, .ref 81, .ref 82, .ref 83, .null, .null, .null, .int 0, .null].set 33 (.ref 84))), SS215.2)
def SS217 : sS := (SS216.1 ++ [.inr (.int, 3, fun _ => none)], sUc SS216.2 SS216.1.length (fun _ => 0))
def SS218 : sS := (SS217.1.set 57 (.inl (9, [.long 0, .ref 58, .int 0, .ref 59, .ref 60, .ref 61, .ref 62, .ref 63, .ref 64, .ref 65, .ref 66, .ref 67, .int 0, .int 0, .int 0, .int 0, .int 0, .ref 68, .ref 69, .ref 70, .ref 71, .ref 72, .ref 73, .ref 74, .ref 75, .ref 76, .ref 77, .ref 78, .ref 79, .ref 80, .ref 81, .ref 82, .ref 83, .ref 84, .null, .null, .int 0, .null].set 34 (.ref 85))), SS217.2)
def SS219 : sS := (SS218.1 ++ [.inr (.long, 4, fun _ => none)], sUc SS218.2 SS218.1.length (fun _ => 0))
def SS220 : sS := (SS219.1.set 57 (.inl (9, [.long 0, .ref 58, .int 0, .ref 59, .ref 60, .ref 61, .ref 62, .ref 63, .ref 64, .ref 65, .ref 66, .ref 67, .int 0, .int 0, .int 0, .int 0, .int 0, .ref 68, .ref 69, .ref 70, .ref 71, .ref 72, .ref 73, .ref 74, .ref 75, .ref 76, .ref 77, .ref 78, .ref 79, .ref 80, .ref 81, .ref 82, .ref 83, .ref 84, .ref 85, .null, .int 0, .null].set 35 (.ref 86))), SS219.2)
def SS221 : sS := (SS220.1 ++ [.inr (.long, 8, fun _ => none)], sUc SS220.2 SS220.1.length (fun _ => 0))
def SS222 : sS := (SS221.1.set 57 (.inl (9, [.long 0, .ref 58, .int 0, .ref 59, .ref 60, .ref 61, .ref 62, .ref 63, .ref 64, .ref 65, .ref 66, .ref 67, .int 0, .int 0, .int 0, .int 0, .int 0, .ref 68, .ref 69, .ref 70, .ref 71, .ref 72, .ref 73, .ref 74, .ref 75, .ref 76, .ref 77, .ref 78, .ref 79, .ref 80, .ref 81, .ref 82, .ref 83, .ref 84, .ref 85, .ref 86, .int 0, .null].set 37 (.ref 87))), SS221.2)
def SS223 : sS := (SS222.1, sU SS222.2 61 0 6)
def SS224 : sS := (SS223.1, sU SS223.2 62 0 3)
def SS225 : sS := (SS224.1, sU SS224.2 72 0 1)
def SS226 : sS := (SS225.1, sU SS225.2 87 0 1)
set_option maxRecDepth 100000 in
set_option maxHeartbeats 1000000 in
theorem CT_X1_init_2 {G : sG} (hG : gF G = false) : aM G yX1_init cX1_init 1 none 1 9 82 [.ref (gP G 2)] SS5 (0, SS19) := by
  refine aM_of (by decide) (Nat.le_of_ble_eq_true rfl) ?_
  show aW G cX1_init RX1 "<init>" 1 none _ _ aX 0 0 SS5 [(0, .ref (gP G 2))] 0 []
  refine a_aload_n 0 dX1_init_0 rfl ?_
  refine a_objinit dX1_init_1 km_RX1_3 kx_objI kx_obj ⟨(Nat.le_of_ble_eq_true rfl), (Nat.le_of_ble_eq_true rfl)⟩ (Nat.le_of_ble_eq_true rfl) ?_
  refine a_aload_n 0 dX1_init_4 rfl ?_
  refine a_iconst dX1_init_5 ?_
  refine a_bipush dX1_init_6 (by decide) ?_
  refine a_mna hG dX1_init_8 kl_RX1_9 ka_int (Nat.le_of_ble_eq_true rfl) (Nat.le_of_ble_eq_true rfl) ?_
  show aW G cX1_init RX1 "<init>" 1 none _ _ aX _ _ SS6 [(0, .ref (gP G 2))] 12 [.ref (gP G 3), .ref (gP G 2)]
  refine a_putRF (j := 0) dX1_init_12 KX1 rfl (by decide) (Nat.le_of_ble_eq_true rfl) rfl rfl rfl rfl rfl kf_RX1_11 ?_
  show aW G cX1_init RX1 "<init>" 1 none _ _ aX _ _ SS7 [(0, .ref (gP G 2))] 15 []
  refine a_aload_n 0 dX1_init_15 rfl ?_
  refine a_iconst dX1_init_16 ?_
  refine a_newI (N := 3) (gP_f hG _) dX1_init_17 ka_int (by decide) (by decide) (Nat.le_of_ble_eq_true rfl) (Nat.le_of_ble_eq_true rfl) ?_
  show aW G cX1_init RX1 "<init>" 1 none _ _ aX _ _ SS8 [(0, .ref (gP G 2))] 19 [.ref (gP G 8), .ref (gP G 2)]
  refine a_putRF (j := 1) dX1_init_19 KX1 rfl (by decide) (Nat.le_of_ble_eq_true rfl) rfl rfl rfl rfl rfl kf_RX1_16 ?_
  show aW G cX1_init RX1 "<init>" 1 none _ _ aX _ _ SS9 [(0, .ref (gP G 2))] 22 []
  refine a_aload_n 0 dX1_init_22 rfl ?_
  refine a_iconst dX1_init_23 ?_
  refine a_newI (N := 3) (gP_f hG _) dX1_init_24 ka_int (by decide) (by decide) (Nat.le_of_ble_eq_true rfl) (Nat.le_of_ble_eq_true rfl) ?_
  show aW G cX1_init RX1 "<init>" 1 none _ _ aX _ _ SS10 [(0, .ref (gP G 2))] 26 [.ref (gP G 9), .ref (gP G 2)]
  refine a_putRF (j := 2) dX1_init_26 KX1 rfl (by decide) (Nat.le_of_ble_eq_true rfl) rfl rfl rfl rfl rfl kf_RX1_20 ?_
  show aW G cX1_init RX1 "<init>" 1 none _ _ aX _ _ SS11 [(0, .ref (gP G 2))] 29 []
  refine a_aload_n 0 dX1_init_29 rfl ?_
  refine a_bipush dX1_init_30 (by decide) ?_
  refine a_newI (N := 8) (gP_f hG _) dX1_init_32 ka_int (by decide) (by decide) (Nat.le_of_ble_eq_true rfl) (Nat.le_of_ble_eq_true rfl) ?_
  show aW G cX1_init RX1 "<init>" 1 none _ _ aX _ _ SS12 [(0, .ref (gP G 2))] 34 [.ref (gP G 10), .ref (gP G 2)]
  refine a_putRF (j := 3) dX1_init_34 KX1 rfl (by decide) (Nat.le_of_ble_eq_true rfl) rfl rfl rfl rfl rfl kf_RX1_23 ?_
  show aW G cX1_init RX1 "<init>" 1 none _ _ aX _ _ SS13 [(0, .ref (gP G 2))] 37 []
  refine a_aload_n 0 dX1_init_37 rfl ?_
  refine a_bipush dX1_init_38 (by decide) ?_
  refine a_newI (N := 8) (gP_f hG _) dX1_init_40 ka_int (by decide) (by decide) (Nat.le_of_ble_eq_true rfl) (Nat.le_of_ble_eq_true rfl) ?_
  show aW G cX1_init RX1 "<init>" 1 none _ _ aX _ _ SS14 [(0, .ref (gP G 2))] 42 [.ref (gP G 11), .ref (gP G 2)]
  refine a_putRF (j := 4) dX1_init_42 KX1 rfl (by decide) (Nat.le_of_ble_eq_true rfl) rfl rfl rfl rfl rfl kf_RX1_26 ?_
  show aW G cX1_init RX1 "<init>" 1 none _ _ aX _ _ SS15 [(0, .ref (gP G 2))] 45 []
  refine a_aload_n 0 dX1_init_45 rfl ?_
  refine a_iconst dX1_init_46 ?_
  refine a_putI (j := 5) dX1_init_47 KX1 rfl (by decide) rfl rfl rfl kf_RX1_29 ?_
  show aW G cX1_init RX1 "<init>" 1 none _ _ aX _ _ SS16 [(0, .ref (gP G 2))] 50 []
  refine a_aload_n 0 dX1_init_50 rfl ?_
  refine a_iconst dX1_init_51 ?_
  refine a_putI (j := 6) dX1_init_52 KX1 rfl (by decide) rfl rfl rfl kf_RX1_33 ?_
  show aW G cX1_init RX1 "<init>" 1 none _ _ aX _ _ SS17 [(0, .ref (gP G 2))] 55 []
  refine a_aload_n 0 dX1_init_55 rfl ?_
  refine a_bipush dX1_init_56 (by decide) ?_
  refine a_putI (j := 7) dX1_init_58 KX1 rfl (by decide) rfl rfl rfl kf_RX1_36 ?_
  show aW G cX1_init RX1 "<init>" 1 none _ _ aX _ _ SS18 [(0, .ref (gP G 2))] 61 []
  refine a_aload_n 0 dX1_init_61 rfl ?_
  refine a_iconst dX1_init_62 ?_
  refine a_putI (j := 8) dX1_init_63 KX1 rfl (by decide) rfl rfl rfl kf_RX1_39 ?_
  show aW G cX1_init RX1 "<init>" 1 none _ _ aX _ _ SS19 [(0, .ref (gP G 2))] 66 []
  exact a_vret dX1_init_66 rfl rfl
set_option maxRecDepth 100000 in
set_option maxHeartbeats 1000000 in
theorem CT_X1_init_12 {G : sG} (hG : gF G = false) : aM G yX1_init cX1_init 1 none 1 9 82 [.ref (gP G 12)] SS21 (0, SS35) := by
  refine aM_of (by decide) (Nat.le_of_ble_eq_true rfl) ?_
  show aW G cX1_init RX1 "<init>" 1 none _ _ aX 0 0 SS21 [(0, .ref (gP G 12))] 0 []
  refine a_aload_n 0 dX1_init_0 rfl ?_
  refine a_objinit dX1_init_1 km_RX1_3 kx_objI kx_obj ⟨(Nat.le_of_ble_eq_true rfl), (Nat.le_of_ble_eq_true rfl)⟩ (Nat.le_of_ble_eq_true rfl) ?_
  refine a_aload_n 0 dX1_init_4 rfl ?_
  refine a_iconst dX1_init_5 ?_
  refine a_bipush dX1_init_6 (by decide) ?_
  refine a_mna hG dX1_init_8 kl_RX1_9 ka_int (Nat.le_of_ble_eq_true rfl) (Nat.le_of_ble_eq_true rfl) ?_
  show aW G cX1_init RX1 "<init>" 1 none _ _ aX _ _ SS22 [(0, .ref (gP G 12))] 12 [.ref (gP G 13), .ref (gP G 12)]
  refine a_putRF (j := 0) dX1_init_12 KX1 rfl (by decide) (Nat.le_of_ble_eq_true rfl) rfl rfl rfl rfl rfl kf_RX1_11 ?_
  show aW G cX1_init RX1 "<init>" 1 none _ _ aX _ _ SS23 [(0, .ref (gP G 12))] 15 []
  refine a_aload_n 0 dX1_init_15 rfl ?_
  refine a_iconst dX1_init_16 ?_
  refine a_newI (N := 3) (gP_f hG _) dX1_init_17 ka_int (by decide) (by decide) (Nat.le_of_ble_eq_true rfl) (Nat.le_of_ble_eq_true rfl) ?_
  show aW G cX1_init RX1 "<init>" 1 none _ _ aX _ _ SS24 [(0, .ref (gP G 12))] 19 [.ref (gP G 18), .ref (gP G 12)]
  refine a_putRF (j := 1) dX1_init_19 KX1 rfl (by decide) (Nat.le_of_ble_eq_true rfl) rfl rfl rfl rfl rfl kf_RX1_16 ?_
  show aW G cX1_init RX1 "<init>" 1 none _ _ aX _ _ SS25 [(0, .ref (gP G 12))] 22 []
  refine a_aload_n 0 dX1_init_22 rfl ?_
  refine a_iconst dX1_init_23 ?_
  refine a_newI (N := 3) (gP_f hG _) dX1_init_24 ka_int (by decide) (by decide) (Nat.le_of_ble_eq_true rfl) (Nat.le_of_ble_eq_true rfl) ?_
  show aW G cX1_init RX1 "<init>" 1 none _ _ aX _ _ SS26 [(0, .ref (gP G 12))] 26 [.ref (gP G 19), .ref (gP G 12)]
  refine a_putRF (j := 2) dX1_init_26 KX1 rfl (by decide) (Nat.le_of_ble_eq_true rfl) rfl rfl rfl rfl rfl kf_RX1_20 ?_
  show aW G cX1_init RX1 "<init>" 1 none _ _ aX _ _ SS27 [(0, .ref (gP G 12))] 29 []
  refine a_aload_n 0 dX1_init_29 rfl ?_
  refine a_bipush dX1_init_30 (by decide) ?_
  refine a_newI (N := 8) (gP_f hG _) dX1_init_32 ka_int (by decide) (by decide) (Nat.le_of_ble_eq_true rfl) (Nat.le_of_ble_eq_true rfl) ?_
  show aW G cX1_init RX1 "<init>" 1 none _ _ aX _ _ SS28 [(0, .ref (gP G 12))] 34 [.ref (gP G 20), .ref (gP G 12)]
  refine a_putRF (j := 3) dX1_init_34 KX1 rfl (by decide) (Nat.le_of_ble_eq_true rfl) rfl rfl rfl rfl rfl kf_RX1_23 ?_
  show aW G cX1_init RX1 "<init>" 1 none _ _ aX _ _ SS29 [(0, .ref (gP G 12))] 37 []
  refine a_aload_n 0 dX1_init_37 rfl ?_
  refine a_bipush dX1_init_38 (by decide) ?_
  refine a_newI (N := 8) (gP_f hG _) dX1_init_40 ka_int (by decide) (by decide) (Nat.le_of_ble_eq_true rfl) (Nat.le_of_ble_eq_true rfl) ?_
  show aW G cX1_init RX1 "<init>" 1 none _ _ aX _ _ SS30 [(0, .ref (gP G 12))] 42 [.ref (gP G 21), .ref (gP G 12)]
  refine a_putRF (j := 4) dX1_init_42 KX1 rfl (by decide) (Nat.le_of_ble_eq_true rfl) rfl rfl rfl rfl rfl kf_RX1_26 ?_
  show aW G cX1_init RX1 "<init>" 1 none _ _ aX _ _ SS31 [(0, .ref (gP G 12))] 45 []
  refine a_aload_n 0 dX1_init_45 rfl ?_
  refine a_iconst dX1_init_46 ?_
  refine a_putI (j := 5) dX1_init_47 KX1 rfl (by decide) rfl rfl rfl kf_RX1_29 ?_
  show aW G cX1_init RX1 "<init>" 1 none _ _ aX _ _ SS32 [(0, .ref (gP G 12))] 50 []
  refine a_aload_n 0 dX1_init_50 rfl ?_
  refine a_iconst dX1_init_51 ?_
  refine a_putI (j := 6) dX1_init_52 KX1 rfl (by decide) rfl rfl rfl kf_RX1_33 ?_
  show aW G cX1_init RX1 "<init>" 1 none _ _ aX _ _ SS33 [(0, .ref (gP G 12))] 55 []
  refine a_aload_n 0 dX1_init_55 rfl ?_
  refine a_bipush dX1_init_56 (by decide) ?_
  refine a_putI (j := 7) dX1_init_58 KX1 rfl (by decide) rfl rfl rfl kf_RX1_36 ?_
  show aW G cX1_init RX1 "<init>" 1 none _ _ aX _ _ SS34 [(0, .ref (gP G 12))] 61 []
  refine a_aload_n 0 dX1_init_61 rfl ?_
  refine a_iconst dX1_init_62 ?_
  refine a_putI (j := 8) dX1_init_63 KX1 rfl (by decide) rfl rfl rfl kf_RX1_39 ?_
  show aW G cX1_init RX1 "<init>" 1 none _ _ aX _ _ SS35 [(0, .ref (gP G 12))] 66 []
  exact a_vret dX1_init_66 rfl rfl
set_option maxRecDepth 100000 in
set_option maxHeartbeats 1000000 in
theorem CT_X4_init_22 {G : sG} (hG : gF G = false) : aM G yX4_init cX4_init 3 none 1 3 1203 [.ref (gP G 22), .ref (gP G 1), .ref (gP G 12)] SS37 (0, SS49) := by
  refine aM_of (by decide) (Nat.le_of_ble_eq_true rfl) ?_
  show aW G cX4_init RX4 "<init>" 3 none _ _ aX 0 0 SS37 [(0, .ref (gP G 22)), (1, .ref (gP G 1)), (2, .ref (gP G 12))] 0 []
  refine a_aload_n 0 dX4_init_0 rfl ?_
  refine a_objinit dX4_init_1 km_RX4_3 kx_objI kx_obj ⟨(Nat.le_of_ble_eq_true rfl), (Nat.le_of_ble_eq_true rfl)⟩ (Nat.le_of_ble_eq_true rfl) ?_
  refine a_aload_n 0 dX4_init_4 rfl ?_
  refine a_sipush dX4_init_5 (by decide) ?_
  refine a_newI (N := 401) (gP_f hG _) dX4_init_8 ka_int (by decide) (by decide) (Nat.le_of_ble_eq_true rfl) (Nat.le_of_ble_eq_true rfl) ?_
  show aW G cX4_init RX4 "<init>" 3 none _ _ aX _ _ SS38 [(0, .ref (gP G 22)), (1, .ref (gP G 1)), (2, .ref (gP G 12))] 10 [.ref (gP G 23), .ref (gP G 22)]
  refine a_putRF (j := 2) dX4_init_10 KX4 rfl (by decide) (Nat.le_of_ble_eq_true rfl) rfl rfl rfl rfl rfl kf_RX4_9 ?_
  show aW G cX4_init RX4 "<init>" 3 none _ _ aX _ _ SS39 [(0, .ref (gP G 22)), (1, .ref (gP G 1)), (2, .ref (gP G 12))] 13 []
  refine a_aload_n 0 dX4_init_13 rfl ?_
  refine a_sipush dX4_init_14 (by decide) ?_
  refine a_newI (N := 401) (gP_f hG _) dX4_init_17 ka_int (by decide) (by decide) (Nat.le_of_ble_eq_true rfl) (Nat.le_of_ble_eq_true rfl) ?_
  show aW G cX4_init RX4 "<init>" 3 none _ _ aX _ _ SS40 [(0, .ref (gP G 22)), (1, .ref (gP G 1)), (2, .ref (gP G 12))] 19 [.ref (gP G 24), .ref (gP G 22)]
  refine a_putRF (j := 3) dX4_init_19 KX4 rfl (by decide) (Nat.le_of_ble_eq_true rfl) rfl rfl rfl rfl rfl kf_RX4_15 ?_
  show aW G cX4_init RX4 "<init>" 3 none _ _ aX _ _ SS41 [(0, .ref (gP G 22)), (1, .ref (gP G 1)), (2, .ref (gP G 12))] 22 []
  refine a_aload_n 0 dX4_init_22 rfl ?_
  refine a_sipush dX4_init_23 (by decide) ?_
  refine a_newI (N := 401) (gP_f hG _) dX4_init_26 ka_int (by decide) (by decide) (Nat.le_of_ble_eq_true rfl) (Nat.le_of_ble_eq_true rfl) ?_
  show aW G cX4_init RX4 "<init>" 3 none _ _ aX _ _ SS42 [(0, .ref (gP G 22)), (1, .ref (gP G 1)), (2, .ref (gP G 12))] 28 [.ref (gP G 25), .ref (gP G 22)]
  refine a_putRF (j := 4) dX4_init_28 KX4 rfl (by decide) (Nat.le_of_ble_eq_true rfl) rfl rfl rfl rfl rfl kf_RX4_18 ?_
  show aW G cX4_init RX4 "<init>" 3 none _ _ aX _ _ SS43 [(0, .ref (gP G 22)), (1, .ref (gP G 1)), (2, .ref (gP G 12))] 31 []
  refine a_aload_n 0 dX4_init_31 rfl ?_
  refine a_iconst dX4_init_32 ?_
  refine a_putI (j := 5) dX4_init_33 KX4 rfl (by decide) rfl rfl rfl kf_RX4_21 ?_
  show aW G cX4_init RX4 "<init>" 3 none _ _ aX _ _ SS44 [(0, .ref (gP G 22)), (1, .ref (gP G 1)), (2, .ref (gP G 12))] 36 []
  refine a_aload_n 0 dX4_init_36 rfl ?_
  refine a_iconst dX4_init_37 ?_
  refine a_putI (j := 6) dX4_init_38 KX4 rfl (by decide) rfl rfl rfl kf_RX4_25 ?_
  show aW G cX4_init RX4 "<init>" 3 none _ _ aX _ _ SS45 [(0, .ref (gP G 22)), (1, .ref (gP G 1)), (2, .ref (gP G 12))] 41 []
  refine a_aload_n 0 dX4_init_41 rfl ?_
  refine a_iconst dX4_init_42 ?_
  refine a_putI (j := 7) dX4_init_43 KX4 rfl (by decide) rfl rfl rfl kf_RX4_28 ?_
  show aW G cX4_init RX4 "<init>" 3 none _ _ aX _ _ SS46 [(0, .ref (gP G 22)), (1, .ref (gP G 1)), (2, .ref (gP G 12))] 46 []
  refine a_aload_n 0 dX4_init_46 rfl ?_
  refine a_iconst dX4_init_47 ?_
  refine a_putI (j := 8) dX4_init_48 KX4 rfl (by decide) rfl rfl rfl kf_RX4_31 ?_
  show aW G cX4_init RX4 "<init>" 3 none _ _ aX _ _ SS47 [(0, .ref (gP G 22)), (1, .ref (gP G 1)), (2, .ref (gP G 12))] 51 []
  refine a_aload_n 0 dX4_init_51 rfl ?_
  refine a_aload_n 1 dX4_init_52 rfl ?_
  refine a_putRF (j := 0) dX4_init_53 KX4 rfl (by decide) (Nat.le_of_ble_eq_true rfl) rfl rfl rfl rfl rfl kf_RX4_34 ?_
  show aW G cX4_init RX4 "<init>" 3 none _ _ aX _ _ SS48 [(0, .ref (gP G 22)), (1, .ref (gP G 1)), (2, .ref (gP G 12))] 56 []
  refine a_aload_n 0 dX4_init_56 rfl ?_
  refine a_aload_n 2 dX4_init_57 rfl ?_
  refine a_putRF (j := 1) dX4_init_58 KX4 rfl (by decide) (Nat.le_of_ble_eq_true rfl) rfl rfl rfl rfl rfl kf_RX4_38 ?_
  show aW G cX4_init RX4 "<init>" 3 none _ _ aX _ _ SS49 [(0, .ref (gP G 22)), (1, .ref (gP G 1)), (2, .ref (gP G 12))] 61 []
  exact a_vret dX4_init_61 rfl rfl
set_option maxRecDepth 100000 in
set_option maxHeartbeats 1000000 in
theorem CT_X7_init_26 {G : sG} (hG : gF G = false) : aM G yX7_init cX7_init 1 none 1 0 0 [.ref (gP G 26)] SS51 (0, SS59) := by
  refine aM_of (by decide) (Nat.le_of_ble_eq_true rfl) ?_
  show aW G cX7_init RX7 "<init>" 1 none _ _ aX 0 0 SS51 [(0, .ref (gP G 26))] 0 []
  refine a_aload_n 0 dX7_init_0 rfl ?_
  refine a_objinit dX7_init_1 km_RX7_3 kx_objI kx_obj ⟨(Nat.le_of_ble_eq_true rfl), (Nat.le_of_ble_eq_true rfl)⟩ (Nat.le_of_ble_eq_true rfl) ?_
  refine a_aload_n 0 dX7_init_4 rfl ?_
  refine a_iconst dX7_init_5 ?_
  refine a_putI (j := 0) dX7_init_6 KX7 rfl (by decide) rfl rfl rfl kf_RX7_9 ?_
  show aW G cX7_init RX7 "<init>" 1 none _ _ aX _ _ SS52 [(0, .ref (gP G 26))] 9 []
  refine a_aload_n 0 dX7_init_9 rfl ?_
  refine a_iconst dX7_init_10 ?_
  refine a_putZ (j := 1) dX7_init_11 KX7 rfl (by decide) rfl rfl rfl kf_RX7_15 (by decide) ?_
  show aW G cX7_init RX7 "<init>" 1 none _ _ aX _ _ SS53 [(0, .ref (gP G 26))] 14 []
  refine a_aload_n 0 dX7_init_14 rfl ?_
  refine a_iconst dX7_init_15 ?_
  refine a_putI (j := 2) dX7_init_16 KX7 rfl (by decide) rfl rfl rfl kf_RX7_19 ?_
  show aW G cX7_init RX7 "<init>" 1 none _ _ aX _ _ SS54 [(0, .ref (gP G 26))] 19 []
  refine a_aload_n 0 dX7_init_19 rfl ?_
  refine a_iconst dX7_init_20 ?_
  refine a_putI (j := 3) dX7_init_21 KX7 rfl (by decide) rfl rfl rfl kf_RX7_22 ?_
  show aW G cX7_init RX7 "<init>" 1 none _ _ aX _ _ SS55 [(0, .ref (gP G 26))] 24 []
  refine a_aload_n 0 dX7_init_24 rfl ?_
  refine a_iconst dX7_init_25 ?_
  refine a_putI (j := 4) dX7_init_26 KX7 rfl (by decide) rfl rfl rfl kf_RX7_25 ?_
  show aW G cX7_init RX7 "<init>" 1 none _ _ aX _ _ SS56 [(0, .ref (gP G 26))] 29 []
  refine a_aload_n 0 dX7_init_29 rfl ?_
  refine a_iconst dX7_init_30 ?_
  refine a_putI (j := 5) dX7_init_31 KX7 rfl (by decide) rfl rfl rfl kf_RX7_28 ?_
  show aW G cX7_init RX7 "<init>" 1 none _ _ aX _ _ SS57 [(0, .ref (gP G 26))] 34 []
  refine a_aload_n 0 dX7_init_34 rfl ?_
  refine a_iconst dX7_init_35 ?_
  refine a_putI (j := 6) dX7_init_36 KX7 rfl (by decide) rfl rfl rfl kf_RX7_31 ?_
  show aW G cX7_init RX7 "<init>" 1 none _ _ aX _ _ SS58 [(0, .ref (gP G 26))] 39 []
  refine a_aload_n 0 dX7_init_39 rfl ?_
  refine a_iconst dX7_init_40 ?_
  refine a_putZ (j := 7) dX7_init_41 KX7 rfl (by decide) rfl rfl rfl kf_RX7_34 (by decide) ?_
  show aW G cX7_init RX7 "<init>" 1 none _ _ aX _ _ SS59 [(0, .ref (gP G 26))] 44 []
  exact a_vret dX7_init_44 rfl rfl
set_option maxRecDepth 100000 in
set_option maxHeartbeats 1000000 in
theorem CT_X7_init_27 {G : sG} (hG : gF G = false) : aM G yX7_init cX7_init 1 none 1 0 0 [.ref (gP G 27)] SS61 (0, SS69) := by
  refine aM_of (by decide) (Nat.le_of_ble_eq_true rfl) ?_
  show aW G cX7_init RX7 "<init>" 1 none _ _ aX 0 0 SS61 [(0, .ref (gP G 27))] 0 []
  refine a_aload_n 0 dX7_init_0 rfl ?_
  refine a_objinit dX7_init_1 km_RX7_3 kx_objI kx_obj ⟨(Nat.le_of_ble_eq_true rfl), (Nat.le_of_ble_eq_true rfl)⟩ (Nat.le_of_ble_eq_true rfl) ?_
  refine a_aload_n 0 dX7_init_4 rfl ?_
  refine a_iconst dX7_init_5 ?_
  refine a_putI (j := 0) dX7_init_6 KX7 rfl (by decide) rfl rfl rfl kf_RX7_9 ?_
  show aW G cX7_init RX7 "<init>" 1 none _ _ aX _ _ SS62 [(0, .ref (gP G 27))] 9 []
  refine a_aload_n 0 dX7_init_9 rfl ?_
  refine a_iconst dX7_init_10 ?_
  refine a_putZ (j := 1) dX7_init_11 KX7 rfl (by decide) rfl rfl rfl kf_RX7_15 (by decide) ?_
  show aW G cX7_init RX7 "<init>" 1 none _ _ aX _ _ SS63 [(0, .ref (gP G 27))] 14 []
  refine a_aload_n 0 dX7_init_14 rfl ?_
  refine a_iconst dX7_init_15 ?_
  refine a_putI (j := 2) dX7_init_16 KX7 rfl (by decide) rfl rfl rfl kf_RX7_19 ?_
  show aW G cX7_init RX7 "<init>" 1 none _ _ aX _ _ SS64 [(0, .ref (gP G 27))] 19 []
  refine a_aload_n 0 dX7_init_19 rfl ?_
  refine a_iconst dX7_init_20 ?_
  refine a_putI (j := 3) dX7_init_21 KX7 rfl (by decide) rfl rfl rfl kf_RX7_22 ?_
  show aW G cX7_init RX7 "<init>" 1 none _ _ aX _ _ SS65 [(0, .ref (gP G 27))] 24 []
  refine a_aload_n 0 dX7_init_24 rfl ?_
  refine a_iconst dX7_init_25 ?_
  refine a_putI (j := 4) dX7_init_26 KX7 rfl (by decide) rfl rfl rfl kf_RX7_25 ?_
  show aW G cX7_init RX7 "<init>" 1 none _ _ aX _ _ SS66 [(0, .ref (gP G 27))] 29 []
  refine a_aload_n 0 dX7_init_29 rfl ?_
  refine a_iconst dX7_init_30 ?_
  refine a_putI (j := 5) dX7_init_31 KX7 rfl (by decide) rfl rfl rfl kf_RX7_28 ?_
  show aW G cX7_init RX7 "<init>" 1 none _ _ aX _ _ SS67 [(0, .ref (gP G 27))] 34 []
  refine a_aload_n 0 dX7_init_34 rfl ?_
  refine a_iconst dX7_init_35 ?_
  refine a_putI (j := 6) dX7_init_36 KX7 rfl (by decide) rfl rfl rfl kf_RX7_31 ?_
  show aW G cX7_init RX7 "<init>" 1 none _ _ aX _ _ SS68 [(0, .ref (gP G 27))] 39 []
  refine a_aload_n 0 dX7_init_39 rfl ?_
  refine a_iconst dX7_init_40 ?_
  refine a_putZ (j := 7) dX7_init_41 KX7 rfl (by decide) rfl rfl rfl kf_RX7_34 (by decide) ?_
  show aW G cX7_init RX7 "<init>" 1 none _ _ aX _ _ SS69 [(0, .ref (gP G 27))] 44 []
  exact a_vret dX7_init_44 rfl rfl
set_option maxRecDepth 100000 in
set_option maxHeartbeats 1000000 in
theorem CT_X7_init_28 {G : sG} (hG : gF G = false) : aM G yX7_init cX7_init 1 none 1 0 0 [.ref (gP G 28)] SS71 (0, SS79) := by
  refine aM_of (by decide) (Nat.le_of_ble_eq_true rfl) ?_
  show aW G cX7_init RX7 "<init>" 1 none _ _ aX 0 0 SS71 [(0, .ref (gP G 28))] 0 []
  refine a_aload_n 0 dX7_init_0 rfl ?_
  refine a_objinit dX7_init_1 km_RX7_3 kx_objI kx_obj ⟨(Nat.le_of_ble_eq_true rfl), (Nat.le_of_ble_eq_true rfl)⟩ (Nat.le_of_ble_eq_true rfl) ?_
  refine a_aload_n 0 dX7_init_4 rfl ?_
  refine a_iconst dX7_init_5 ?_
  refine a_putI (j := 0) dX7_init_6 KX7 rfl (by decide) rfl rfl rfl kf_RX7_9 ?_
  show aW G cX7_init RX7 "<init>" 1 none _ _ aX _ _ SS72 [(0, .ref (gP G 28))] 9 []
  refine a_aload_n 0 dX7_init_9 rfl ?_
  refine a_iconst dX7_init_10 ?_
  refine a_putZ (j := 1) dX7_init_11 KX7 rfl (by decide) rfl rfl rfl kf_RX7_15 (by decide) ?_
  show aW G cX7_init RX7 "<init>" 1 none _ _ aX _ _ SS73 [(0, .ref (gP G 28))] 14 []
  refine a_aload_n 0 dX7_init_14 rfl ?_
  refine a_iconst dX7_init_15 ?_
  refine a_putI (j := 2) dX7_init_16 KX7 rfl (by decide) rfl rfl rfl kf_RX7_19 ?_
  show aW G cX7_init RX7 "<init>" 1 none _ _ aX _ _ SS74 [(0, .ref (gP G 28))] 19 []
  refine a_aload_n 0 dX7_init_19 rfl ?_
  refine a_iconst dX7_init_20 ?_
  refine a_putI (j := 3) dX7_init_21 KX7 rfl (by decide) rfl rfl rfl kf_RX7_22 ?_
  show aW G cX7_init RX7 "<init>" 1 none _ _ aX _ _ SS75 [(0, .ref (gP G 28))] 24 []
  refine a_aload_n 0 dX7_init_24 rfl ?_
  refine a_iconst dX7_init_25 ?_
  refine a_putI (j := 4) dX7_init_26 KX7 rfl (by decide) rfl rfl rfl kf_RX7_25 ?_
  show aW G cX7_init RX7 "<init>" 1 none _ _ aX _ _ SS76 [(0, .ref (gP G 28))] 29 []
  refine a_aload_n 0 dX7_init_29 rfl ?_
  refine a_iconst dX7_init_30 ?_
  refine a_putI (j := 5) dX7_init_31 KX7 rfl (by decide) rfl rfl rfl kf_RX7_28 ?_
  show aW G cX7_init RX7 "<init>" 1 none _ _ aX _ _ SS77 [(0, .ref (gP G 28))] 34 []
  refine a_aload_n 0 dX7_init_34 rfl ?_
  refine a_iconst dX7_init_35 ?_
  refine a_putI (j := 6) dX7_init_36 KX7 rfl (by decide) rfl rfl rfl kf_RX7_31 ?_
  show aW G cX7_init RX7 "<init>" 1 none _ _ aX _ _ SS78 [(0, .ref (gP G 28))] 39 []
  refine a_aload_n 0 dX7_init_39 rfl ?_
  refine a_iconst dX7_init_40 ?_
  refine a_putZ (j := 7) dX7_init_41 KX7 rfl (by decide) rfl rfl rfl kf_RX7_34 (by decide) ?_
  show aW G cX7_init RX7 "<init>" 1 none _ _ aX _ _ SS79 [(0, .ref (gP G 28))] 44 []
  exact a_vret dX7_init_44 rfl rfl
set_option maxRecDepth 100000 in
set_option maxHeartbeats 1000000 in
theorem CT_X3_init_29 {G : sG} (hG : gF G = false) : aM G yX3_init cX3_init 2 none 1 4 48 [.ref (gP G 29), .ref (gP G 2)] SS81 (0, SS94) := by
  refine aM_of (by decide) (Nat.le_of_ble_eq_true rfl) ?_
  show aW G cX3_init RX3 "<init>" 2 none _ _ aX 0 0 SS81 [(0, .ref (gP G 29)), (1, .ref (gP G 2))] 0 []
  refine a_aload_n 0 dX3_init_0 rfl ?_
  refine a_objinit dX3_init_1 km_RX3_3 kx_objI kx_obj ⟨(Nat.le_of_ble_eq_true rfl), (Nat.le_of_ble_eq_true rfl)⟩ (Nat.le_of_ble_eq_true rfl) ?_
  refine a_aload_n 0 dX3_init_4 rfl ?_
  refine a_iconst dX3_init_5 ?_
  refine a_putI (j := 1) dX3_init_6 KX3 rfl (by decide) rfl rfl rfl kf_RX3_9 ?_
  show aW G cX3_init RX3 "<init>" 2 none _ _ aX _ _ SS82 [(0, .ref (gP G 29)), (1, .ref (gP G 2))] 9 []
  refine a_aload_n 0 dX3_init_9 rfl ?_
  refine a_iconst dX3_init_10 ?_
  refine a_putI (j := 2) dX3_init_11 KX3 rfl (by decide) rfl rfl rfl kf_RX3_15 ?_
  show aW G cX3_init RX3 "<init>" 2 none _ _ aX _ _ SS83 [(0, .ref (gP G 29)), (1, .ref (gP G 2))] 14 []
  refine a_aload_n 0 dX3_init_14 rfl ?_
  refine a_bipush dX3_init_15 (by decide) ?_
  refine a_newI (N := 48) (gP_f hG _) dX3_init_17 ka_int (by decide) (by decide) (Nat.le_of_ble_eq_true rfl) (Nat.le_of_ble_eq_true rfl) ?_
  show aW G cX3_init RX3 "<init>" 2 none _ _ aX _ _ SS84 [(0, .ref (gP G 29)), (1, .ref (gP G 2))] 19 [.ref (gP G 30), .ref (gP G 29)]
  refine a_putRF (j := 3) dX3_init_19 KX3 rfl (by decide) (Nat.le_of_ble_eq_true rfl) rfl rfl rfl rfl rfl kf_RX3_18 ?_
  show aW G cX3_init RX3 "<init>" 2 none _ _ aX _ _ SS85 [(0, .ref (gP G 29)), (1, .ref (gP G 2))] 22 []
  refine a_aload_n 0 dX3_init_22 rfl ?_
  refine a_iconst dX3_init_23 ?_
  refine a_putI (j := 4) dX3_init_24 KX3 rfl (by decide) rfl rfl rfl kf_RX3_22 ?_
  show aW G cX3_init RX3 "<init>" 2 none _ _ aX _ _ SS86 [(0, .ref (gP G 29)), (1, .ref (gP G 2))] 27 []
  refine a_aload_n 0 dX3_init_27 rfl ?_
  refine a_lconst (z := 1) dX3_init_28 (by decide) ?_
  refine a_putL (j := 5) dX3_init_29 KX3 rfl (by decide) rfl rfl rfl kf_RX3_25 ?_
  show aW G cX3_init RX3 "<init>" 2 none _ _ aX _ _ SS87 [(0, .ref (gP G 29)), (1, .ref (gP G 2))] 32 []
  refine a_aload_n 0 dX3_init_32 rfl ?_
  refine a_iconst dX3_init_33 ?_
  refine a_newL (N := 0) (gP_f hG _) dX3_init_34 ka_long (by decide) (by decide) (Nat.le_of_ble_eq_true rfl) (Nat.le_of_ble_eq_true rfl) ?_
  show aW G cX3_init RX3 "<init>" 2 none _ _ aX _ _ SS88 [(0, .ref (gP G 29)), (1, .ref (gP G 2))] 36 [.ref (gP G 31), .ref (gP G 29)]
  refine a_putR (j := 6) dX3_init_36 KX3 rfl (by decide) (Nat.le_of_ble_eq_true rfl) rfl rfl rfl kf_RX3_29 ?_
  show aW G cX3_init RX3 "<init>" 2 none _ _ aX _ _ SS89 [(0, .ref (gP G 29)), (1, .ref (gP G 2))] 39 []
  refine a_aload_n 0 dX3_init_39 rfl ?_
  refine a_iconst dX3_init_40 ?_
  refine a_newL (N := 0) (gP_f hG _) dX3_init_41 ka_long (by decide) (by decide) (Nat.le_of_ble_eq_true rfl) (Nat.le_of_ble_eq_true rfl) ?_
  show aW G cX3_init RX3 "<init>" 2 none _ _ aX _ _ SS90 [(0, .ref (gP G 29)), (1, .ref (gP G 2))] 43 [.ref (gP G 32), .ref (gP G 29)]
  refine a_putR (j := 7) dX3_init_43 KX3 rfl (by decide) (Nat.le_of_ble_eq_true rfl) rfl rfl rfl kf_RX3_33 ?_
  show aW G cX3_init RX3 "<init>" 2 none _ _ aX _ _ SS91 [(0, .ref (gP G 29)), (1, .ref (gP G 2))] 46 []
  refine a_aload_n 0 dX3_init_46 rfl ?_
  refine a_iconst dX3_init_47 ?_
  refine a_newL (N := 0) (gP_f hG _) dX3_init_48 ka_long (by decide) (by decide) (Nat.le_of_ble_eq_true rfl) (Nat.le_of_ble_eq_true rfl) ?_
  show aW G cX3_init RX3 "<init>" 2 none _ _ aX _ _ SS92 [(0, .ref (gP G 29)), (1, .ref (gP G 2))] 50 [.ref (gP G 33), .ref (gP G 29)]
  refine a_putR (j := 8) dX3_init_50 KX3 rfl (by decide) (Nat.le_of_ble_eq_true rfl) rfl rfl rfl kf_RX3_36 ?_
  show aW G cX3_init RX3 "<init>" 2 none _ _ aX _ _ SS93 [(0, .ref (gP G 29)), (1, .ref (gP G 2))] 53 []
  refine a_aload_n 0 dX3_init_53 rfl ?_
  refine a_aload_n 1 dX3_init_54 rfl ?_
  refine a_putRF (j := 0) dX3_init_55 KX3 rfl (by decide) (Nat.le_of_ble_eq_true rfl) rfl rfl rfl rfl rfl kf_RX3_39 ?_
  show aW G cX3_init RX3 "<init>" 2 none _ _ aX _ _ SS94 [(0, .ref (gP G 29)), (1, .ref (gP G 2))] 58 []
  exact a_vret dX3_init_58 rfl rfl
set_option maxRecDepth 100000 in
set_option maxHeartbeats 1000000 in
theorem CT_X3_init_34 {G : sG} (hG : gF G = false) : aM G yX3_init cX3_init 2 none 1 4 48 [.ref (gP G 34), .ref (gP G 2)] SS96 (0, SS109) := by
  refine aM_of (by decide) (Nat.le_of_ble_eq_true rfl) ?_
  show aW G cX3_init RX3 "<init>" 2 none _ _ aX 0 0 SS96 [(0, .ref (gP G 34)), (1, .ref (gP G 2))] 0 []
  refine a_aload_n 0 dX3_init_0 rfl ?_
  refine a_objinit dX3_init_1 km_RX3_3 kx_objI kx_obj ⟨(Nat.le_of_ble_eq_true rfl), (Nat.le_of_ble_eq_true rfl)⟩ (Nat.le_of_ble_eq_true rfl) ?_
  refine a_aload_n 0 dX3_init_4 rfl ?_
  refine a_iconst dX3_init_5 ?_
  refine a_putI (j := 1) dX3_init_6 KX3 rfl (by decide) rfl rfl rfl kf_RX3_9 ?_
  show aW G cX3_init RX3 "<init>" 2 none _ _ aX _ _ SS97 [(0, .ref (gP G 34)), (1, .ref (gP G 2))] 9 []
  refine a_aload_n 0 dX3_init_9 rfl ?_
  refine a_iconst dX3_init_10 ?_
  refine a_putI (j := 2) dX3_init_11 KX3 rfl (by decide) rfl rfl rfl kf_RX3_15 ?_
  show aW G cX3_init RX3 "<init>" 2 none _ _ aX _ _ SS98 [(0, .ref (gP G 34)), (1, .ref (gP G 2))] 14 []
  refine a_aload_n 0 dX3_init_14 rfl ?_
  refine a_bipush dX3_init_15 (by decide) ?_
  refine a_newI (N := 48) (gP_f hG _) dX3_init_17 ka_int (by decide) (by decide) (Nat.le_of_ble_eq_true rfl) (Nat.le_of_ble_eq_true rfl) ?_
  show aW G cX3_init RX3 "<init>" 2 none _ _ aX _ _ SS99 [(0, .ref (gP G 34)), (1, .ref (gP G 2))] 19 [.ref (gP G 35), .ref (gP G 34)]
  refine a_putRF (j := 3) dX3_init_19 KX3 rfl (by decide) (Nat.le_of_ble_eq_true rfl) rfl rfl rfl rfl rfl kf_RX3_18 ?_
  show aW G cX3_init RX3 "<init>" 2 none _ _ aX _ _ SS100 [(0, .ref (gP G 34)), (1, .ref (gP G 2))] 22 []
  refine a_aload_n 0 dX3_init_22 rfl ?_
  refine a_iconst dX3_init_23 ?_
  refine a_putI (j := 4) dX3_init_24 KX3 rfl (by decide) rfl rfl rfl kf_RX3_22 ?_
  show aW G cX3_init RX3 "<init>" 2 none _ _ aX _ _ SS101 [(0, .ref (gP G 34)), (1, .ref (gP G 2))] 27 []
  refine a_aload_n 0 dX3_init_27 rfl ?_
  refine a_lconst (z := 1) dX3_init_28 (by decide) ?_
  refine a_putL (j := 5) dX3_init_29 KX3 rfl (by decide) rfl rfl rfl kf_RX3_25 ?_
  show aW G cX3_init RX3 "<init>" 2 none _ _ aX _ _ SS102 [(0, .ref (gP G 34)), (1, .ref (gP G 2))] 32 []
  refine a_aload_n 0 dX3_init_32 rfl ?_
  refine a_iconst dX3_init_33 ?_
  refine a_newL (N := 0) (gP_f hG _) dX3_init_34 ka_long (by decide) (by decide) (Nat.le_of_ble_eq_true rfl) (Nat.le_of_ble_eq_true rfl) ?_
  show aW G cX3_init RX3 "<init>" 2 none _ _ aX _ _ SS103 [(0, .ref (gP G 34)), (1, .ref (gP G 2))] 36 [.ref (gP G 36), .ref (gP G 34)]
  refine a_putR (j := 6) dX3_init_36 KX3 rfl (by decide) (Nat.le_of_ble_eq_true rfl) rfl rfl rfl kf_RX3_29 ?_
  show aW G cX3_init RX3 "<init>" 2 none _ _ aX _ _ SS104 [(0, .ref (gP G 34)), (1, .ref (gP G 2))] 39 []
  refine a_aload_n 0 dX3_init_39 rfl ?_
  refine a_iconst dX3_init_40 ?_
  refine a_newL (N := 0) (gP_f hG _) dX3_init_41 ka_long (by decide) (by decide) (Nat.le_of_ble_eq_true rfl) (Nat.le_of_ble_eq_true rfl) ?_
  show aW G cX3_init RX3 "<init>" 2 none _ _ aX _ _ SS105 [(0, .ref (gP G 34)), (1, .ref (gP G 2))] 43 [.ref (gP G 37), .ref (gP G 34)]
  refine a_putR (j := 7) dX3_init_43 KX3 rfl (by decide) (Nat.le_of_ble_eq_true rfl) rfl rfl rfl kf_RX3_33 ?_
  show aW G cX3_init RX3 "<init>" 2 none _ _ aX _ _ SS106 [(0, .ref (gP G 34)), (1, .ref (gP G 2))] 46 []
  refine a_aload_n 0 dX3_init_46 rfl ?_
  refine a_iconst dX3_init_47 ?_
  refine a_newL (N := 0) (gP_f hG _) dX3_init_48 ka_long (by decide) (by decide) (Nat.le_of_ble_eq_true rfl) (Nat.le_of_ble_eq_true rfl) ?_
  show aW G cX3_init RX3 "<init>" 2 none _ _ aX _ _ SS107 [(0, .ref (gP G 34)), (1, .ref (gP G 2))] 50 [.ref (gP G 38), .ref (gP G 34)]
  refine a_putR (j := 8) dX3_init_50 KX3 rfl (by decide) (Nat.le_of_ble_eq_true rfl) rfl rfl rfl kf_RX3_36 ?_
  show aW G cX3_init RX3 "<init>" 2 none _ _ aX _ _ SS108 [(0, .ref (gP G 34)), (1, .ref (gP G 2))] 53 []
  refine a_aload_n 0 dX3_init_53 rfl ?_
  refine a_aload_n 1 dX3_init_54 rfl ?_
  refine a_putRF (j := 0) dX3_init_55 KX3 rfl (by decide) (Nat.le_of_ble_eq_true rfl) rfl rfl rfl rfl rfl kf_RX3_39 ?_
  show aW G cX3_init RX3 "<init>" 2 none _ _ aX _ _ SS109 [(0, .ref (gP G 34)), (1, .ref (gP G 2))] 58 []
  exact a_vret dX3_init_58 rfl rfl
set_option maxRecDepth 100000 in
set_option maxHeartbeats 1000000 in
theorem CT_X5_init_40 {G : sG} (hG : gF G = false) : aM G yX5_init cX5_init 1 none 1 1 4 [.ref (gP G 40)] SS112 (0, SS114) := by
  refine aM_of (by decide) (Nat.le_of_ble_eq_true rfl) ?_
  show aW G cX5_init RX5 "<init>" 1 none _ _ aX 0 0 SS112 [(0, .ref (gP G 40))] 0 []
  refine a_aload_n 0 dX5_init_0 rfl ?_
  refine a_objinit dX5_init_1 km_RX5_3 kx_objI kx_obj ⟨(Nat.le_of_ble_eq_true rfl), (Nat.le_of_ble_eq_true rfl)⟩ (Nat.le_of_ble_eq_true rfl) ?_
  refine a_aload_n 0 dX5_init_4 rfl ?_
  refine a_iconst dX5_init_5 ?_
  refine a_newL (N := 4) (gP_f hG _) dX5_init_6 ka_long (by decide) (by decide) (Nat.le_of_ble_eq_true rfl) (Nat.le_of_ble_eq_true rfl) ?_
  show aW G cX5_init RX5 "<init>" 1 none _ _ aX _ _ SS113 [(0, .ref (gP G 40))] 8 [.ref (gP G 41), .ref (gP G 40)]
  refine a_putRF (j := 0) dX5_init_8 KX5 rfl (by decide) (Nat.le_of_ble_eq_true rfl) rfl rfl rfl rfl rfl kf_RX5_9 ?_
  show aW G cX5_init RX5 "<init>" 1 none _ _ aX _ _ SS114 [(0, .ref (gP G 40))] 11 []
  exact a_vret dX5_init_11 rfl rfl
set_option maxRecDepth 100000 in
set_option maxHeartbeats 1000000 in
theorem CT_X5_init_42 {G : sG} (hG : gF G = false) : aM G yX5_init cX5_init 1 none 1 1 4 [.ref (gP G 42)] SS116 (0, SS118) := by
  refine aM_of (by decide) (Nat.le_of_ble_eq_true rfl) ?_
  show aW G cX5_init RX5 "<init>" 1 none _ _ aX 0 0 SS116 [(0, .ref (gP G 42))] 0 []
  refine a_aload_n 0 dX5_init_0 rfl ?_
  refine a_objinit dX5_init_1 km_RX5_3 kx_objI kx_obj ⟨(Nat.le_of_ble_eq_true rfl), (Nat.le_of_ble_eq_true rfl)⟩ (Nat.le_of_ble_eq_true rfl) ?_
  refine a_aload_n 0 dX5_init_4 rfl ?_
  refine a_iconst dX5_init_5 ?_
  refine a_newL (N := 4) (gP_f hG _) dX5_init_6 ka_long (by decide) (by decide) (Nat.le_of_ble_eq_true rfl) (Nat.le_of_ble_eq_true rfl) ?_
  show aW G cX5_init RX5 "<init>" 1 none _ _ aX _ _ SS117 [(0, .ref (gP G 42))] 8 [.ref (gP G 43), .ref (gP G 42)]
  refine a_putRF (j := 0) dX5_init_8 KX5 rfl (by decide) (Nat.le_of_ble_eq_true rfl) rfl rfl rfl rfl rfl kf_RX5_9 ?_
  show aW G cX5_init RX5 "<init>" 1 none _ _ aX _ _ SS118 [(0, .ref (gP G 42))] 11 []
  exact a_vret dX5_init_11 rfl rfl
set_option maxRecDepth 100000 in
set_option maxHeartbeats 1000000 in
theorem CT_X0_init_39 {G : sG} (hG : gF G = false) : aM G yX0_init cX0_init 2 none 2 9 230 [.ref (gP G 39), .ref (gP G 2)] SS111 (0, SS138) := by
  refine aM_of (by decide) (Nat.le_of_ble_eq_true rfl) ?_
  show aW G cX0_init RX0 "<init>" 2 none _ _ aX 0 0 SS111 [(0, .ref (gP G 39)), (1, .ref (gP G 2))] 0 []
  refine a_aload_n 0 dX0_init_0 rfl ?_
  refine a_objinit dX0_init_1 km_RX0_3 kx_objI kx_obj ⟨(Nat.le_of_ble_eq_true rfl), (Nat.le_of_ble_eq_true rfl)⟩ (Nat.le_of_ble_eq_true rfl) ?_
  refine a_aload_n 0 dX0_init_4 rfl ?_
  refine a_new (tm := [.null]) (gP_f hG _) dX0_init_5 KX5 kl_RX0_9 kt_RX5 ki_RX5 rfl (fun j hj => by rcases (show j = 0 by omega) with rfl <;> rfl) (Nat.le_of_ble_eq_true rfl) (Nat.le_of_ble_eq_true rfl) ?_
  show aW G cX0_init RX0 "<init>" 2 none _ _ aX _ _ SS112 [(0, .ref (gP G 39)), (1, .ref (gP G 2))] 8 [.ref (gP G 40), .ref (gP G 39)]
  refine a_dupR dX0_init_8 ?_
  refine a_callINV (As := []) dX0_init_9 mX5_init kv_X5_init rfl km_RX0_11 rfl (CT_X5_init_40 hG) rfl (Nat.le_of_ble_eq_true rfl) (Nat.le_of_ble_eq_true rfl) ⟨(Nat.le_of_ble_eq_true rfl), (Nat.le_of_ble_eq_true rfl)⟩ (Nat.le_of_ble_eq_true rfl) ?_
  show aW G cX0_init RX0 "<init>" 2 none _ _ aX _ _ SS114 [(0, .ref (gP G 39)), (1, .ref (gP G 2))] 12 [.ref (gP G 40), .ref (gP G 39)]
  refine a_putRF (j := 1) dX0_init_12 KX0 rfl (by decide) (Nat.le_of_ble_eq_true rfl) rfl rfl rfl rfl rfl kf_RX0_12 ?_
  show aW G cX0_init RX0 "<init>" 2 none _ _ aX _ _ SS115 [(0, .ref (gP G 39)), (1, .ref (gP G 2))] 15 []
  refine a_aload_n 0 dX0_init_15 rfl ?_
  refine a_new (tm := [.null]) (gP_f hG _) dX0_init_16 KX5 kl_RX0_9 kt_RX5 ki_RX5 rfl (fun j hj => by rcases (show j = 0 by omega) with rfl <;> rfl) (Nat.le_of_ble_eq_true rfl) (Nat.le_of_ble_eq_true rfl) ?_
  show aW G cX0_init RX0 "<init>" 2 none _ _ aX _ _ SS116 [(0, .ref (gP G 39)), (1, .ref (gP G 2))] 19 [.ref (gP G 42), .ref (gP G 39)]
  refine a_dupR dX0_init_19 ?_
  refine a_callINV (As := []) dX0_init_20 mX5_init kv_X5_init rfl km_RX0_11 rfl (CT_X5_init_42 hG) rfl (Nat.le_of_ble_eq_true rfl) (Nat.le_of_ble_eq_true rfl) ⟨(Nat.le_of_ble_eq_true rfl), (Nat.le_of_ble_eq_true rfl)⟩ (Nat.le_of_ble_eq_true rfl) ?_
  show aW G cX0_init RX0 "<init>" 2 none _ _ aX _ _ SS118 [(0, .ref (gP G 39)), (1, .ref (gP G 2))] 23 [.ref (gP G 42), .ref (gP G 39)]
  refine a_putRF (j := 2) dX0_init_23 KX0 rfl (by decide) (Nat.le_of_ble_eq_true rfl) rfl rfl rfl rfl rfl kf_RX0_18 ?_
  show aW G cX0_init RX0 "<init>" 2 none _ _ aX _ _ SS119 [(0, .ref (gP G 39)), (1, .ref (gP G 2))] 26 []
  refine a_aload_n 0 dX0_init_26 rfl ?_
  refine a_sipush dX0_init_27 (by decide) ?_
  refine a_newI (N := 192) (gP_f hG _) dX0_init_30 ka_int (by decide) (by decide) (Nat.le_of_ble_eq_true rfl) (Nat.le_of_ble_eq_true rfl) ?_
  show aW G cX0_init RX0 "<init>" 2 none _ _ aX _ _ SS120 [(0, .ref (gP G 39)), (1, .ref (gP G 2))] 32 [.ref (gP G 44), .ref (gP G 39)]
  refine a_putRF (j := 3) dX0_init_32 KX0 rfl (by decide) (Nat.le_of_ble_eq_true rfl) rfl rfl rfl rfl rfl kf_RX0_21 ?_
  show aW G cX0_init RX0 "<init>" 2 none _ _ aX _ _ SS121 [(0, .ref (gP G 39)), (1, .ref (gP G 2))] 35 []
  refine a_aload_n 0 dX0_init_35 rfl ?_
  refine a_bipush dX0_init_36 (by decide) ?_
  refine a_newI (N := 9) (gP_f hG _) dX0_init_38 ka_int (by decide) (by decide) (Nat.le_of_ble_eq_true rfl) (Nat.le_of_ble_eq_true rfl) ?_
  show aW G cX0_init RX0 "<init>" 2 none _ _ aX _ _ SS122 [(0, .ref (gP G 39)), (1, .ref (gP G 2))] 40 [.ref (gP G 45), .ref (gP G 39)]
  refine a_putRF (j := 4) dX0_init_40 KX0 rfl (by decide) (Nat.le_of_ble_eq_true rfl) rfl rfl rfl rfl rfl kf_RX0_25 ?_
  show aW G cX0_init RX0 "<init>" 2 none _ _ aX _ _ SS123 [(0, .ref (gP G 39)), (1, .ref (gP G 2))] 43 []
  refine a_aload_n 0 dX0_init_43 rfl ?_
  refine a_iconst dX0_init_44 ?_
  refine a_newI (N := 3) (gP_f hG _) dX0_init_45 ka_int (by decide) (by decide) (Nat.le_of_ble_eq_true rfl) (Nat.le_of_ble_eq_true rfl) ?_
  show aW G cX0_init RX0 "<init>" 2 none _ _ aX _ _ SS124 [(0, .ref (gP G 39)), (1, .ref (gP G 2))] 47 [.ref (gP G 46), .ref (gP G 39)]
  refine a_putRF (j := 5) dX0_init_47 KX0 rfl (by decide) (Nat.le_of_ble_eq_true rfl) rfl rfl rfl rfl rfl kf_RX0_28 ?_
  show aW G cX0_init RX0 "<init>" 2 none _ _ aX _ _ SS125 [(0, .ref (gP G 39)), (1, .ref (gP G 2))] 50 []
  refine a_aload_n 0 dX0_init_50 rfl ?_
  refine a_bipush dX0_init_51 (by decide) ?_
  refine a_newI (N := 8) (gP_f hG _) dX0_init_53 ka_int (by decide) (by decide) (Nat.le_of_ble_eq_true rfl) (Nat.le_of_ble_eq_true rfl) ?_
  show aW G cX0_init RX0 "<init>" 2 none _ _ aX _ _ SS126 [(0, .ref (gP G 39)), (1, .ref (gP G 2))] 55 [.ref (gP G 47), .ref (gP G 39)]
  refine a_putRF (j := 6) dX0_init_55 KX0 rfl (by decide) (Nat.le_of_ble_eq_true rfl) rfl rfl rfl rfl rfl kf_RX0_31 ?_
  show aW G cX0_init RX0 "<init>" 2 none _ _ aX _ _ SS127 [(0, .ref (gP G 39)), (1, .ref (gP G 2))] 58 []
  refine a_aload_n 0 dX0_init_58 rfl ?_
  refine a_bipush dX0_init_59 (by decide) ?_
  refine a_newI (N := 8) (gP_f hG _) dX0_init_61 ka_int (by decide) (by decide) (Nat.le_of_ble_eq_true rfl) (Nat.le_of_ble_eq_true rfl) ?_
  show aW G cX0_init RX0 "<init>" 2 none _ _ aX _ _ SS128 [(0, .ref (gP G 39)), (1, .ref (gP G 2))] 63 [.ref (gP G 48), .ref (gP G 39)]
  refine a_putRF (j := 7) dX0_init_63 KX0 rfl (by decide) (Nat.le_of_ble_eq_true rfl) rfl rfl rfl rfl rfl kf_RX0_34 ?_
  show aW G cX0_init RX0 "<init>" 2 none _ _ aX _ _ SS129 [(0, .ref (gP G 39)), (1, .ref (gP G 2))] 66 []
  refine a_aload_n 0 dX0_init_66 rfl ?_
  refine a_iconst dX0_init_67 ?_
  refine a_putI (j := 8) dX0_init_68 KX0 rfl (by decide) rfl rfl rfl kf_RX0_37 ?_
  show aW G cX0_init RX0 "<init>" 2 none _ _ aX _ _ SS130 [(0, .ref (gP G 39)), (1, .ref (gP G 2))] 71 []
  refine a_aload_n 0 dX0_init_71 rfl ?_
  refine a_iconst dX0_init_72 ?_
  refine a_putI (j := 9) dX0_init_73 KX0 rfl (by decide) rfl rfl rfl kf_RX0_41 ?_
  show aW G cX0_init RX0 "<init>" 2 none _ _ aX _ _ SS131 [(0, .ref (gP G 39)), (1, .ref (gP G 2))] 76 []
  refine a_aload_n 0 dX0_init_76 rfl ?_
  refine a_iconst dX0_init_77 ?_
  refine a_putI (j := 10) dX0_init_78 KX0 rfl (by decide) rfl rfl rfl kf_RX0_44 ?_
  show aW G cX0_init RX0 "<init>" 2 none _ _ aX _ _ SS132 [(0, .ref (gP G 39)), (1, .ref (gP G 2))] 81 []
  refine a_aload_n 0 dX0_init_81 rfl ?_
  refine a_iconst dX0_init_82 ?_
  refine a_putZ (j := 11) dX0_init_83 KX0 rfl (by decide) rfl rfl rfl kf_RX0_47 (by decide) ?_
  show aW G cX0_init RX0 "<init>" 2 none _ _ aX _ _ SS133 [(0, .ref (gP G 39)), (1, .ref (gP G 2))] 86 []
  refine a_aload_n 0 dX0_init_86 rfl ?_
  refine a_iconst dX0_init_87 ?_
  refine a_putI (j := 12) dX0_init_88 KX0 rfl (by decide) rfl rfl rfl kf_RX0_51 ?_
  show aW G cX0_init RX0 "<init>" 2 none _ _ aX _ _ SS134 [(0, .ref (gP G 39)), (1, .ref (gP G 2))] 91 []
  refine a_aload_n 0 dX0_init_91 rfl ?_
  refine a_iconst dX0_init_92 ?_
  refine a_putZ (j := 13) dX0_init_93 KX0 rfl (by decide) rfl rfl rfl kf_RX0_54 (by decide) ?_
  show aW G cX0_init RX0 "<init>" 2 none _ _ aX _ _ SS135 [(0, .ref (gP G 39)), (1, .ref (gP G 2))] 96 []
  refine a_aload_n 0 dX0_init_96 rfl ?_
  refine a_iconst dX0_init_97 ?_
  refine a_putI (j := 14) dX0_init_98 KX0 rfl (by decide) rfl rfl rfl kf_RX0_57 ?_
  show aW G cX0_init RX0 "<init>" 2 none _ _ aX _ _ SS136 [(0, .ref (gP G 39)), (1, .ref (gP G 2))] 101 []
  refine a_aload_n 0 dX0_init_101 rfl ?_
  refine a_iconst dX0_init_102 ?_
  refine a_putI (j := 15) dX0_init_103 KX0 rfl (by decide) rfl rfl rfl kf_RX0_60 ?_
  show aW G cX0_init RX0 "<init>" 2 none _ _ aX _ _ SS137 [(0, .ref (gP G 39)), (1, .ref (gP G 2))] 106 []
  refine a_aload_n 0 dX0_init_106 rfl ?_
  refine a_aload_n 1 dX0_init_107 rfl ?_
  refine a_putRF (j := 0) dX0_init_108 KX0 rfl (by decide) (Nat.le_of_ble_eq_true rfl) rfl rfl rfl rfl rfl kf_RX0_63 ?_
  show aW G cX0_init RX0 "<init>" 2 none _ _ aX _ _ SS138 [(0, .ref (gP G 39)), (1, .ref (gP G 2))] 111 []
  exact a_vret dX0_init_111 rfl rfl
set_option maxRecDepth 100000 in
set_option maxHeartbeats 1000000 in
theorem CT_X5_init_49 {G : sG} (hG : gF G = false) : aM G yX5_init cX5_init 1 none 1 1 4 [.ref (gP G 49)] SS140 (0, SS142) := by
  refine aM_of (by decide) (Nat.le_of_ble_eq_true rfl) ?_
  show aW G cX5_init RX5 "<init>" 1 none _ _ aX 0 0 SS140 [(0, .ref (gP G 49))] 0 []
  refine a_aload_n 0 dX5_init_0 rfl ?_
  refine a_objinit dX5_init_1 km_RX5_3 kx_objI kx_obj ⟨(Nat.le_of_ble_eq_true rfl), (Nat.le_of_ble_eq_true rfl)⟩ (Nat.le_of_ble_eq_true rfl) ?_
  refine a_aload_n 0 dX5_init_4 rfl ?_
  refine a_iconst dX5_init_5 ?_
  refine a_newL (N := 4) (gP_f hG _) dX5_init_6 ka_long (by decide) (by decide) (Nat.le_of_ble_eq_true rfl) (Nat.le_of_ble_eq_true rfl) ?_
  show aW G cX5_init RX5 "<init>" 1 none _ _ aX _ _ SS141 [(0, .ref (gP G 49))] 8 [.ref (gP G 50), .ref (gP G 49)]
  refine a_putRF (j := 0) dX5_init_8 KX5 rfl (by decide) (Nat.le_of_ble_eq_true rfl) rfl rfl rfl rfl rfl kf_RX5_9 ?_
  show aW G cX5_init RX5 "<init>" 1 none _ _ aX _ _ SS142 [(0, .ref (gP G 49))] 11 []
  exact a_vret dX5_init_11 rfl rfl
set_option maxRecDepth 100000 in
set_option maxHeartbeats 1000000 in
theorem CT_X5_init_52 {G : sG} (hG : gF G = false) : aM G yX5_init cX5_init 1 none 1 1 4 [.ref (gP G 52)] SS145 (0, SS147) := by
  refine aM_of (by decide) (Nat.le_of_ble_eq_true rfl) ?_
  show aW G cX5_init RX5 "<init>" 1 none _ _ aX 0 0 SS145 [(0, .ref (gP G 52))] 0 []
  refine a_aload_n 0 dX5_init_0 rfl ?_
  refine a_objinit dX5_init_1 km_RX5_3 kx_objI kx_obj ⟨(Nat.le_of_ble_eq_true rfl), (Nat.le_of_ble_eq_true rfl)⟩ (Nat.le_of_ble_eq_true rfl) ?_
  refine a_aload_n 0 dX5_init_4 rfl ?_
  refine a_iconst dX5_init_5 ?_
  refine a_newL (N := 4) (gP_f hG _) dX5_init_6 ka_long (by decide) (by decide) (Nat.le_of_ble_eq_true rfl) (Nat.le_of_ble_eq_true rfl) ?_
  show aW G cX5_init RX5 "<init>" 1 none _ _ aX _ _ SS146 [(0, .ref (gP G 52))] 8 [.ref (gP G 53), .ref (gP G 52)]
  refine a_putRF (j := 0) dX5_init_8 KX5 rfl (by decide) (Nat.le_of_ble_eq_true rfl) rfl rfl rfl rfl rfl kf_RX5_9 ?_
  show aW G cX5_init RX5 "<init>" 1 none _ _ aX _ _ SS147 [(0, .ref (gP G 52))] 11 []
  exact a_vret dX5_init_11 rfl rfl
set_option maxRecDepth 100000 in
set_option maxHeartbeats 1000000 in
theorem CT_X5_init_54 {G : sG} (hG : gF G = false) : aM G yX5_init cX5_init 1 none 1 1 4 [.ref (gP G 54)] SS149 (0, SS151) := by
  refine aM_of (by decide) (Nat.le_of_ble_eq_true rfl) ?_
  show aW G cX5_init RX5 "<init>" 1 none _ _ aX 0 0 SS149 [(0, .ref (gP G 54))] 0 []
  refine a_aload_n 0 dX5_init_0 rfl ?_
  refine a_objinit dX5_init_1 km_RX5_3 kx_objI kx_obj ⟨(Nat.le_of_ble_eq_true rfl), (Nat.le_of_ble_eq_true rfl)⟩ (Nat.le_of_ble_eq_true rfl) ?_
  refine a_aload_n 0 dX5_init_4 rfl ?_
  refine a_iconst dX5_init_5 ?_
  refine a_newL (N := 4) (gP_f hG _) dX5_init_6 ka_long (by decide) (by decide) (Nat.le_of_ble_eq_true rfl) (Nat.le_of_ble_eq_true rfl) ?_
  show aW G cX5_init RX5 "<init>" 1 none _ _ aX _ _ SS150 [(0, .ref (gP G 54))] 8 [.ref (gP G 55), .ref (gP G 54)]
  refine a_putRF (j := 0) dX5_init_8 KX5 rfl (by decide) (Nat.le_of_ble_eq_true rfl) rfl rfl rfl rfl rfl kf_RX5_9 ?_
  show aW G cX5_init RX5 "<init>" 1 none _ _ aX _ _ SS151 [(0, .ref (gP G 54))] 11 []
  exact a_vret dX5_init_11 rfl rfl
set_option maxRecDepth 100000 in
set_option maxHeartbeats 1000000 in
theorem CT_X6_init_51 {G : sG} (hG : gF G = false) : aM G yX6_init cX6_init 2 none 2 4 10 [.ref (gP G 51), .ref (gP G 2)] SS144 (0, SS155) := by
  refine aM_of (by decide) (Nat.le_of_ble_eq_true rfl) ?_
  show aW G cX6_init RX6 "<init>" 2 none _ _ aX 0 0 SS144 [(0, .ref (gP G 51)), (1, .ref (gP G 2))] 0 []
  refine a_aload_n 0 dX6_init_0 rfl ?_
  refine a_objinit dX6_init_1 km_RX6_3 kx_objI kx_obj ⟨(Nat.le_of_ble_eq_true rfl), (Nat.le_of_ble_eq_true rfl)⟩ (Nat.le_of_ble_eq_true rfl) ?_
  refine a_aload_n 0 dX6_init_4 rfl ?_
  refine a_new (tm := [.null]) (gP_f hG _) dX6_init_5 KX5 kl_RX6_9 kt_RX5 ki_RX5 rfl (fun j hj => by rcases (show j = 0 by omega) with rfl <;> rfl) (Nat.le_of_ble_eq_true rfl) (Nat.le_of_ble_eq_true rfl) ?_
  show aW G cX6_init RX6 "<init>" 2 none _ _ aX _ _ SS145 [(0, .ref (gP G 51)), (1, .ref (gP G 2))] 8 [.ref (gP G 52), .ref (gP G 51)]
  refine a_dupR dX6_init_8 ?_
  refine a_callINV (As := []) dX6_init_9 mX5_init kv_X5_init rfl km_RX6_11 rfl (CT_X5_init_52 hG) rfl (Nat.le_of_ble_eq_true rfl) (Nat.le_of_ble_eq_true rfl) ⟨(Nat.le_of_ble_eq_true rfl), (Nat.le_of_ble_eq_true rfl)⟩ (Nat.le_of_ble_eq_true rfl) ?_
  show aW G cX6_init RX6 "<init>" 2 none _ _ aX _ _ SS147 [(0, .ref (gP G 51)), (1, .ref (gP G 2))] 12 [.ref (gP G 52), .ref (gP G 51)]
  refine a_putRF (j := 1) dX6_init_12 KX6 rfl (by decide) (Nat.le_of_ble_eq_true rfl) rfl rfl rfl rfl rfl kf_RX6_12 ?_
  show aW G cX6_init RX6 "<init>" 2 none _ _ aX _ _ SS148 [(0, .ref (gP G 51)), (1, .ref (gP G 2))] 15 []
  refine a_aload_n 0 dX6_init_15 rfl ?_
  refine a_new (tm := [.null]) (gP_f hG _) dX6_init_16 KX5 kl_RX6_9 kt_RX5 ki_RX5 rfl (fun j hj => by rcases (show j = 0 by omega) with rfl <;> rfl) (Nat.le_of_ble_eq_true rfl) (Nat.le_of_ble_eq_true rfl) ?_
  show aW G cX6_init RX6 "<init>" 2 none _ _ aX _ _ SS149 [(0, .ref (gP G 51)), (1, .ref (gP G 2))] 19 [.ref (gP G 54), .ref (gP G 51)]
  refine a_dupR dX6_init_19 ?_
  refine a_callINV (As := []) dX6_init_20 mX5_init kv_X5_init rfl km_RX6_11 rfl (CT_X5_init_54 hG) rfl (Nat.le_of_ble_eq_true rfl) (Nat.le_of_ble_eq_true rfl) ⟨(Nat.le_of_ble_eq_true rfl), (Nat.le_of_ble_eq_true rfl)⟩ (Nat.le_of_ble_eq_true rfl) ?_
  show aW G cX6_init RX6 "<init>" 2 none _ _ aX _ _ SS151 [(0, .ref (gP G 51)), (1, .ref (gP G 2))] 23 [.ref (gP G 54), .ref (gP G 51)]
  refine a_putRF (j := 2) dX6_init_23 KX6 rfl (by decide) (Nat.le_of_ble_eq_true rfl) rfl rfl rfl rfl rfl kf_RX6_18 ?_
  show aW G cX6_init RX6 "<init>" 2 none _ _ aX _ _ SS152 [(0, .ref (gP G 51)), (1, .ref (gP G 2))] 26 []
  refine a_aload_n 0 dX6_init_26 rfl ?_
  refine a_iconst dX6_init_27 ?_
  refine a_putI (j := 3) dX6_init_28 KX6 rfl (by decide) rfl rfl rfl kf_RX6_21 ?_
  show aW G cX6_init RX6 "<init>" 2 none _ _ aX _ _ SS153 [(0, .ref (gP G 51)), (1, .ref (gP G 2))] 31 []
  refine a_aload_n 0 dX6_init_31 rfl ?_
  refine a_aload_n 1 dX6_init_32 rfl ?_
  refine a_putRF (j := 0) dX6_init_33 KX6 rfl (by decide) (Nat.le_of_ble_eq_true rfl) rfl rfl rfl rfl rfl kf_RX6_25 ?_
  show aW G cX6_init RX6 "<init>" 2 none _ _ aX _ _ SS154 [(0, .ref (gP G 51)), (1, .ref (gP G 2))] 36 []
  refine a_aload_n 0 dX6_init_36 rfl ?_
  refine a_getR (a := 52) (j := 1) dX6_init_37 KX6 rfl (by decide) rfl kf_RX6_12 ?_
  refine a_iconst dX6_init_40 ?_
  refine a_callVV (As := [vI 0]) dX6_init_41 mX5_startAt KX5 rfl kv_X5_startAt ks_X5_startAt rfl km_RX6_29 rfl (T_X5_startAt (F := 10) (o0 := 52) (Sh_0 := SS154.1) (σ := SS154.2) rfl rfl (st_0 52 SS154.2)) (fun _ => rfl) rfl (Nat.le_of_ble_eq_true rfl) (Nat.le_of_ble_eq_true rfl) ⟨(Nat.le_of_ble_eq_true rfl), (Nat.le_of_ble_eq_true rfl)⟩ (Nat.le_of_ble_eq_true rfl) ?_
  show aW G cX6_init RX6 "<init>" 2 none _ _ aX _ _ SS155 [(0, .ref (gP G 51)), (1, .ref (gP G 2))] 44 []
  exact a_vret dX6_init_44 rfl rfl
set_option maxRecDepth 100000 in
set_option maxHeartbeats 1000000 in
theorem CT_X2_init_56 {G : sG} (hG : gF G = false) : aM G yX2_init cX2_init 2 none 1 0 0 [.ref (gP G 56), .ref (gP G 2)] SS157 (0, SS159) := by
  refine aM_of (by decide) (Nat.le_of_ble_eq_true rfl) ?_
  show aW G cX2_init RX2 "<init>" 2 none _ _ aX 0 0 SS157 [(0, .ref (gP G 56)), (1, .ref (gP G 2))] 0 []
  refine a_aload_n 0 dX2_init_0 rfl ?_
  refine a_objinit dX2_init_1 km_RX2_3 kx_objI kx_obj ⟨(Nat.le_of_ble_eq_true rfl), (Nat.le_of_ble_eq_true rfl)⟩ (Nat.le_of_ble_eq_true rfl) ?_
  refine a_aload_n 0 dX2_init_4 rfl ?_
  refine a_lconst (z := 0) dX2_init_5 (by decide) ?_
  refine a_putL (j := 1) dX2_init_6 KX2 rfl (by decide) rfl rfl rfl kf_RX2_9 ?_
  show aW G cX2_init RX2 "<init>" 2 none _ _ aX _ _ SS158 [(0, .ref (gP G 56)), (1, .ref (gP G 2))] 9 []
  refine a_aload_n 0 dX2_init_9 rfl ?_
  refine a_aload_n 1 dX2_init_10 rfl ?_
  refine a_putRF (j := 0) dX2_init_11 KX2 rfl (by decide) (Nat.le_of_ble_eq_true rfl) rfl rfl rfl rfl rfl kf_RX2_15 ?_
  show aW G cX2_init RX2 "<init>" 2 none _ _ aX _ _ SS159 [(0, .ref (gP G 56)), (1, .ref (gP G 2))] 14 []
  exact a_vret dX2_init_14 rfl rfl
set_option maxRecDepth 100000 in
set_option maxHeartbeats 1000000 in
theorem CT_X8_init_0 {G : sG} (hG : gF G = false) : aM G yX8_init cX8_init 1 none 3 56 2199 [.ref (gP G 0)] SS1 (0, SS161) := by
  refine aM_of (by decide) (Nat.le_of_ble_eq_true rfl) ?_
  show aW G cX8_init RX8 "<init>" 1 none _ _ aX 0 0 SS1 [(0, .ref (gP G 0))] 0 []
  refine a_aload_n 0 dX8_init_0 rfl ?_
  refine a_objinit dX8_init_1 km_RX8_1 kx_objI kx_obj ⟨(Nat.le_of_ble_eq_true rfl), (Nat.le_of_ble_eq_true rfl)⟩ (Nat.le_of_ble_eq_true rfl) ?_
  refine a_aload_n 0 dX8_init_4 rfl ?_
  refine a_sipush dX8_init_5 (by decide) ?_
  refine a_newB (N := 400) (gP_f hG _) dX8_init_8 ka_byte (by decide) (by decide) (Nat.le_of_ble_eq_true rfl) (Nat.le_of_ble_eq_true rfl) ?_
  show aW G cX8_init RX8 "<init>" 1 none _ _ aX _ _ SS2 [(0, .ref (gP G 0))] 10 [.ref (gP G 1), .ref (gP G 0)]
  refine a_putRF (j := 0) dX8_init_10 KX8 rfl (by decide) (Nat.le_of_ble_eq_true rfl) rfl rfl rfl rfl rfl kf_RX8_9 ?_
  show aW G cX8_init RX8 "<init>" 1 none _ _ aX _ _ SS3 [(0, .ref (gP G 0))] 13 []
  refine a_aload_n 0 dX8_init_13 rfl ?_
  refine a_iconst dX8_init_14 ?_
  refine a_putI (j := 1) dX8_init_15 KX8 rfl (by decide) rfl rfl rfl kf_RX8_13 ?_
  show aW G cX8_init RX8 "<init>" 1 none _ _ aX _ _ SS4 [(0, .ref (gP G 0))] 18 []
  refine a_aload_n 0 dX8_init_18 rfl ?_
  refine a_new (tm := [.null, .null, .null, .null, .null, .int 0, .int 0, .int 0, .int 0]) (gP_f hG _) dX8_init_19 KX1 kl_RX8_17 kt_RX1 ki_RX1 rfl (fun j hj => by rcases (show j = 0 ∨ j = 1 ∨ j = 2 ∨ j = 3 ∨ j = 4 ∨ j = 5 ∨ j = 6 ∨ j = 7 ∨ j = 8 by omega) with rfl | rfl | rfl | rfl | rfl | rfl | rfl | rfl | rfl <;> rfl) (Nat.le_of_ble_eq_true rfl) (Nat.le_of_ble_eq_true rfl) ?_
  show aW G cX8_init RX8 "<init>" 1 none _ _ aX _ _ SS5 [(0, .ref (gP G 0))] 22 [.ref (gP G 2), .ref (gP G 0)]
  refine a_dupR dX8_init_22 ?_
  refine a_callINV (As := []) dX8_init_23 mX1_init kv_X1_init rfl km_RX8_19 rfl (CT_X1_init_2 hG) rfl (Nat.le_of_ble_eq_true rfl) (Nat.le_of_ble_eq_true rfl) ⟨(Nat.le_of_ble_eq_true rfl), (Nat.le_of_ble_eq_true rfl)⟩ (Nat.le_of_ble_eq_true rfl) ?_
  show aW G cX8_init RX8 "<init>" 1 none _ _ aX _ _ SS19 [(0, .ref (gP G 0))] 26 [.ref (gP G 2), .ref (gP G 0)]
  refine a_putRF (j := 2) dX8_init_26 KX8 rfl (by decide) (Nat.le_of_ble_eq_true rfl) rfl rfl rfl rfl rfl kf_RX8_20 ?_
  show aW G cX8_init RX8 "<init>" 1 none _ _ aX _ _ SS20 [(0, .ref (gP G 0))] 29 []
  refine a_aload_n 0 dX8_init_29 rfl ?_
  refine a_new (tm := [.null, .null, .null, .null, .null, .int 0, .int 0, .int 0, .int 0]) (gP_f hG _) dX8_init_30 KX1 kl_RX8_17 kt_RX1 ki_RX1 rfl (fun j hj => by rcases (show j = 0 ∨ j = 1 ∨ j = 2 ∨ j = 3 ∨ j = 4 ∨ j = 5 ∨ j = 6 ∨ j = 7 ∨ j = 8 by omega) with rfl | rfl | rfl | rfl | rfl | rfl | rfl | rfl | rfl <;> rfl) (Nat.le_of_ble_eq_true rfl) (Nat.le_of_ble_eq_true rfl) ?_
  show aW G cX8_init RX8 "<init>" 1 none _ _ aX _ _ SS21 [(0, .ref (gP G 0))] 33 [.ref (gP G 12), .ref (gP G 0)]
  refine a_dupR dX8_init_33 ?_
  refine a_callINV (As := []) dX8_init_34 mX1_init kv_X1_init rfl km_RX8_19 rfl (CT_X1_init_12 hG) rfl (Nat.le_of_ble_eq_true rfl) (Nat.le_of_ble_eq_true rfl) ⟨(Nat.le_of_ble_eq_true rfl), (Nat.le_of_ble_eq_true rfl)⟩ (Nat.le_of_ble_eq_true rfl) ?_
  show aW G cX8_init RX8 "<init>" 1 none _ _ aX _ _ SS35 [(0, .ref (gP G 0))] 37 [.ref (gP G 12), .ref (gP G 0)]
  refine a_putRF (j := 3) dX8_init_37 KX8 rfl (by decide) (Nat.le_of_ble_eq_true rfl) rfl rfl rfl rfl rfl kf_RX8_24 ?_
  show aW G cX8_init RX8 "<init>" 1 none _ _ aX _ _ SS36 [(0, .ref (gP G 0))] 40 []
  refine a_aload_n 0 dX8_init_40 rfl ?_
  refine a_new (tm := [.null, .null, .null, .null, .null, .int 0, .int 0, .int 0, .int 0]) (gP_f hG _) dX8_init_41 KX4 kl_RX8_27 kt_RX4 ki_RX4 rfl (fun j hj => by rcases (show j = 0 ∨ j = 1 ∨ j = 2 ∨ j = 3 ∨ j = 4 ∨ j = 5 ∨ j = 6 ∨ j = 7 ∨ j = 8 by omega) with rfl | rfl | rfl | rfl | rfl | rfl | rfl | rfl | rfl <;> rfl) (Nat.le_of_ble_eq_true rfl) (Nat.le_of_ble_eq_true rfl) ?_
  show aW G cX8_init RX8 "<init>" 1 none _ _ aX _ _ SS37 [(0, .ref (gP G 0))] 44 [.ref (gP G 22), .ref (gP G 0)]
  refine a_dupR dX8_init_44 ?_
  refine a_aload_n 0 dX8_init_45 rfl ?_
  refine a_getR (a := 1) (j := 0) dX8_init_46 KX8 rfl (by decide) rfl kf_RX8_9 ?_
  refine a_aload_n 0 dX8_init_49 rfl ?_
  refine a_getR (a := 12) (j := 3) dX8_init_50 KX8 rfl (by decide) rfl kf_RX8_24 ?_
  refine a_callIV (As := [.ref (gP G 1), .ref (gP G 12)]) dX8_init_53 mX4_init kv_X4_init rfl km_RX8_29 rfl (CT_X4_init_22 hG) rfl (Nat.le_of_ble_eq_true rfl) (Nat.le_of_ble_eq_true rfl) ⟨(Nat.le_of_ble_eq_true rfl), (Nat.le_of_ble_eq_true rfl)⟩ (Nat.le_of_ble_eq_true rfl) ?_
  show aW G cX8_init RX8 "<init>" 1 none _ _ aX _ _ SS49 [(0, .ref (gP G 0))] 56 [.ref (gP G 22), .ref (gP G 0)]
  refine a_putRF (j := 4) dX8_init_56 KX8 rfl (by decide) (Nat.le_of_ble_eq_true rfl) rfl rfl rfl rfl rfl kf_RX8_32 ?_
  show aW G cX8_init RX8 "<init>" 1 none _ _ aX _ _ SS50 [(0, .ref (gP G 0))] 59 []
  refine a_aload_n 0 dX8_init_59 rfl ?_
  refine a_new (tm := [.int 0, .int 0, .int 0, .int 0, .int 0, .int 0, .int 0, .int 0]) (gP_f hG _) dX8_init_60 KX7 kl_RX8_36 kt_RX7 ki_RX7 rfl (fun j hj => by rcases (show j = 0 ∨ j = 1 ∨ j = 2 ∨ j = 3 ∨ j = 4 ∨ j = 5 ∨ j = 6 ∨ j = 7 by omega) with rfl | rfl | rfl | rfl | rfl | rfl | rfl | rfl <;> rfl) (Nat.le_of_ble_eq_true rfl) (Nat.le_of_ble_eq_true rfl) ?_
  show aW G cX8_init RX8 "<init>" 1 none _ _ aX _ _ SS51 [(0, .ref (gP G 0))] 63 [.ref (gP G 26), .ref (gP G 0)]
  refine a_dupR dX8_init_63 ?_
  refine a_callINV (As := []) dX8_init_64 mX7_init kv_X7_init rfl km_RX8_38 rfl (CT_X7_init_26 hG) rfl (Nat.le_of_ble_eq_true rfl) (Nat.le_of_ble_eq_true rfl) ⟨(Nat.le_of_ble_eq_true rfl), (Nat.le_of_ble_eq_true rfl)⟩ (Nat.le_of_ble_eq_true rfl) ?_
  show aW G cX8_init RX8 "<init>" 1 none _ _ aX _ _ SS59 [(0, .ref (gP G 0))] 67 [.ref (gP G 26), .ref (gP G 0)]
  refine a_putRF (j := 5) dX8_init_67 KX8 rfl (by decide) (Nat.le_of_ble_eq_true rfl) rfl rfl rfl rfl rfl kf_RX8_39 ?_
  show aW G cX8_init RX8 "<init>" 1 none _ _ aX _ _ SS60 [(0, .ref (gP G 0))] 70 []
  refine a_aload_n 0 dX8_init_70 rfl ?_
  refine a_new (tm := [.int 0, .int 0, .int 0, .int 0, .int 0, .int 0, .int 0, .int 0]) (gP_f hG _) dX8_init_71 KX7 kl_RX8_36 kt_RX7 ki_RX7 rfl (fun j hj => by rcases (show j = 0 ∨ j = 1 ∨ j = 2 ∨ j = 3 ∨ j = 4 ∨ j = 5 ∨ j = 6 ∨ j = 7 by omega) with rfl | rfl | rfl | rfl | rfl | rfl | rfl | rfl <;> rfl) (Nat.le_of_ble_eq_true rfl) (Nat.le_of_ble_eq_true rfl) ?_
  show aW G cX8_init RX8 "<init>" 1 none _ _ aX _ _ SS61 [(0, .ref (gP G 0))] 74 [.ref (gP G 27), .ref (gP G 0)]
  refine a_dupR dX8_init_74 ?_
  refine a_callINV (As := []) dX8_init_75 mX7_init kv_X7_init rfl km_RX8_38 rfl (CT_X7_init_27 hG) rfl (Nat.le_of_ble_eq_true rfl) (Nat.le_of_ble_eq_true rfl) ⟨(Nat.le_of_ble_eq_true rfl), (Nat.le_of_ble_eq_true rfl)⟩ (Nat.le_of_ble_eq_true rfl) ?_
  show aW G cX8_init RX8 "<init>" 1 none _ _ aX _ _ SS69 [(0, .ref (gP G 0))] 78 [.ref (gP G 27), .ref (gP G 0)]
  refine a_putRF (j := 6) dX8_init_78 KX8 rfl (by decide) (Nat.le_of_ble_eq_true rfl) rfl rfl rfl rfl rfl kf_RX8_43 ?_
  show aW G cX8_init RX8 "<init>" 1 none _ _ aX _ _ SS70 [(0, .ref (gP G 0))] 81 []
  refine a_aload_n 0 dX8_init_81 rfl ?_
  refine a_new (tm := [.int 0, .int 0, .int 0, .int 0, .int 0, .int 0, .int 0, .int 0]) (gP_f hG _) dX8_init_82 KX7 kl_RX8_36 kt_RX7 ki_RX7 rfl (fun j hj => by rcases (show j = 0 ∨ j = 1 ∨ j = 2 ∨ j = 3 ∨ j = 4 ∨ j = 5 ∨ j = 6 ∨ j = 7 by omega) with rfl | rfl | rfl | rfl | rfl | rfl | rfl | rfl <;> rfl) (Nat.le_of_ble_eq_true rfl) (Nat.le_of_ble_eq_true rfl) ?_
  show aW G cX8_init RX8 "<init>" 1 none _ _ aX _ _ SS71 [(0, .ref (gP G 0))] 85 [.ref (gP G 28), .ref (gP G 0)]
  refine a_dupR dX8_init_85 ?_
  refine a_callINV (As := []) dX8_init_86 mX7_init kv_X7_init rfl km_RX8_38 rfl (CT_X7_init_28 hG) rfl (Nat.le_of_ble_eq_true rfl) (Nat.le_of_ble_eq_true rfl) ⟨(Nat.le_of_ble_eq_true rfl), (Nat.le_of_ble_eq_true rfl)⟩ (Nat.le_of_ble_eq_true rfl) ?_
  show aW G cX8_init RX8 "<init>" 1 none _ _ aX _ _ SS79 [(0, .ref (gP G 0))] 89 [.ref (gP G 28), .ref (gP G 0)]
  refine a_putRF (j := 7) dX8_init_89 KX8 rfl (by decide) (Nat.le_of_ble_eq_true rfl) rfl rfl rfl rfl rfl kf_RX8_46 ?_
  show aW G cX8_init RX8 "<init>" 1 none _ _ aX _ _ SS80 [(0, .ref (gP G 0))] 92 []
  refine a_aload_n 0 dX8_init_92 rfl ?_
  refine a_new (tm := [.null, .int 0, .int 0, .null, .int 0, .long 0, .null, .null, .null]) (gP_f hG _) dX8_init_93 KX3 kl_RX8_49 kt_RX3 ki_RX3 rfl (fun j hj => by rcases (show j = 0 ∨ j = 1 ∨ j = 2 ∨ j = 3 ∨ j = 4 ∨ j = 5 ∨ j = 6 ∨ j = 7 ∨ j = 8 by omega) with rfl | rfl | rfl | rfl | rfl | rfl | rfl | rfl | rfl <;> rfl) (Nat.le_of_ble_eq_true rfl) (Nat.le_of_ble_eq_true rfl) ?_
  show aW G cX8_init RX8 "<init>" 1 none _ _ aX _ _ SS81 [(0, .ref (gP G 0))] 96 [.ref (gP G 29), .ref (gP G 0)]
  refine a_dupR dX8_init_96 ?_
  refine a_aload_n 0 dX8_init_97 rfl ?_
  refine a_getR (a := 2) (j := 2) dX8_init_98 KX8 rfl (by decide) rfl kf_RX8_20 ?_
  refine a_callIV (As := [.ref (gP G 2)]) dX8_init_101 mX3_init kv_X3_init rfl km_RX8_51 rfl (CT_X3_init_29 hG) rfl (Nat.le_of_ble_eq_true rfl) (Nat.le_of_ble_eq_true rfl) ⟨(Nat.le_of_ble_eq_true rfl), (Nat.le_of_ble_eq_true rfl)⟩ (Nat.le_of_ble_eq_true rfl) ?_
  show aW G cX8_init RX8 "<init>" 1 none _ _ aX _ _ SS94 [(0, .ref (gP G 0))] 104 [.ref (gP G 29), .ref (gP G 0)]
  refine a_putRF (j := 8) dX8_init_104 KX8 rfl (by decide) (Nat.le_of_ble_eq_true rfl) rfl rfl rfl rfl rfl kf_RX8_54 ?_
  show aW G cX8_init RX8 "<init>" 1 none _ _ aX _ _ SS95 [(0, .ref (gP G 0))] 107 []
  refine a_aload_n 0 dX8_init_107 rfl ?_
  refine a_new (tm := [.null, .int 0, .int 0, .null, .int 0, .long 0, .null, .null, .null]) (gP_f hG _) dX8_init_108 KX3 kl_RX8_49 kt_RX3 ki_RX3 rfl (fun j hj => by rcases (show j = 0 ∨ j = 1 ∨ j = 2 ∨ j = 3 ∨ j = 4 ∨ j = 5 ∨ j = 6 ∨ j = 7 ∨ j = 8 by omega) with rfl | rfl | rfl | rfl | rfl | rfl | rfl | rfl | rfl <;> rfl) (Nat.le_of_ble_eq_true rfl) (Nat.le_of_ble_eq_true rfl) ?_
  show aW G cX8_init RX8 "<init>" 1 none _ _ aX _ _ SS96 [(0, .ref (gP G 0))] 111 [.ref (gP G 34), .ref (gP G 0)]
  refine a_dupR dX8_init_111 ?_
  refine a_aload_n 0 dX8_init_112 rfl ?_
  refine a_getR (a := 2) (j := 2) dX8_init_113 KX8 rfl (by decide) rfl kf_RX8_20 ?_
  refine a_callIV (As := [.ref (gP G 2)]) dX8_init_116 mX3_init kv_X3_init rfl km_RX8_51 rfl (CT_X3_init_34 hG) rfl (Nat.le_of_ble_eq_true rfl) (Nat.le_of_ble_eq_true rfl) ⟨(Nat.le_of_ble_eq_true rfl), (Nat.le_of_ble_eq_true rfl)⟩ (Nat.le_of_ble_eq_true rfl) ?_
  show aW G cX8_init RX8 "<init>" 1 none _ _ aX _ _ SS109 [(0, .ref (gP G 0))] 119 [.ref (gP G 34), .ref (gP G 0)]
  refine a_putRF (j := 9) dX8_init_119 KX8 rfl (by decide) (Nat.le_of_ble_eq_true rfl) rfl rfl rfl rfl rfl kf_RX8_58 ?_
  show aW G cX8_init RX8 "<init>" 1 none _ _ aX _ _ SS110 [(0, .ref (gP G 0))] 122 []
  refine a_aload_n 0 dX8_init_122 rfl ?_
  refine a_new (tm := [.null, .null, .null, .null, .null, .null, .null, .null, .int 0, .int 0, .int 0, .int 0, .int 0, .int 0, .int 0, .int 0]) (gP_f hG _) dX8_init_123 KX0 kl_RX8_61 kt_RX0 ki_RX0 rfl (fun j hj => by rcases (show j = 0 ∨ j = 1 ∨ j = 2 ∨ j = 3 ∨ j = 4 ∨ j = 5 ∨ j = 6 ∨ j = 7 ∨ j = 8 ∨ j = 9 ∨ j = 10 ∨ j = 11 ∨ j = 12 ∨ j = 13 ∨ j = 14 ∨ j = 15 by omega) with rfl | rfl | rfl | rfl | rfl | rfl | rfl | rfl | rfl | rfl | rfl | rfl | rfl | rfl | rfl | rfl <;> rfl) (Nat.le_of_ble_eq_true rfl) (Nat.le_of_ble_eq_true rfl) ?_
  show aW G cX8_init RX8 "<init>" 1 none _ _ aX _ _ SS111 [(0, .ref (gP G 0))] 126 [.ref (gP G 39), .ref (gP G 0)]
  refine a_dupR dX8_init_126 ?_
  refine a_aload_n 0 dX8_init_127 rfl ?_
  refine a_getR (a := 2) (j := 2) dX8_init_128 KX8 rfl (by decide) rfl kf_RX8_20 ?_
  refine a_callIV (As := [.ref (gP G 2)]) dX8_init_131 mX0_init kv_X0_init rfl km_RX8_63 rfl (CT_X0_init_39 hG) rfl (Nat.le_of_ble_eq_true rfl) (Nat.le_of_ble_eq_true rfl) ⟨(Nat.le_of_ble_eq_true rfl), (Nat.le_of_ble_eq_true rfl)⟩ (Nat.le_of_ble_eq_true rfl) ?_
  show aW G cX8_init RX8 "<init>" 1 none _ _ aX _ _ SS138 [(0, .ref (gP G 0))] 134 [.ref (gP G 39), .ref (gP G 0)]
  refine a_putRF (j := 10) dX8_init_134 KX8 rfl (by decide) (Nat.le_of_ble_eq_true rfl) rfl rfl rfl rfl rfl kf_RX8_64 ?_
  show aW G cX8_init RX8 "<init>" 1 none _ _ aX _ _ SS139 [(0, .ref (gP G 0))] 137 []
  refine a_aload_n 0 dX8_init_137 rfl ?_
  refine a_new (tm := [.null]) (gP_f hG _) dX8_init_138 KX5 kl_RX8_68 kt_RX5 ki_RX5 rfl (fun j hj => by rcases (show j = 0 by omega) with rfl <;> rfl) (Nat.le_of_ble_eq_true rfl) (Nat.le_of_ble_eq_true rfl) ?_
  show aW G cX8_init RX8 "<init>" 1 none _ _ aX _ _ SS140 [(0, .ref (gP G 0))] 141 [.ref (gP G 49), .ref (gP G 0)]
  refine a_dupR dX8_init_141 ?_
  refine a_callINV (As := []) dX8_init_142 mX5_init kv_X5_init rfl km_RX8_70 rfl (CT_X5_init_49 hG) rfl (Nat.le_of_ble_eq_true rfl) (Nat.le_of_ble_eq_true rfl) ⟨(Nat.le_of_ble_eq_true rfl), (Nat.le_of_ble_eq_true rfl)⟩ (Nat.le_of_ble_eq_true rfl) ?_
  show aW G cX8_init RX8 "<init>" 1 none _ _ aX _ _ SS142 [(0, .ref (gP G 0))] 145 [.ref (gP G 49), .ref (gP G 0)]
  refine a_putRF (j := 11) dX8_init_145 KX8 rfl (by decide) (Nat.le_of_ble_eq_true rfl) rfl rfl rfl rfl rfl kf_RX8_71 ?_
  show aW G cX8_init RX8 "<init>" 1 none _ _ aX _ _ SS143 [(0, .ref (gP G 0))] 148 []
  refine a_aload_n 0 dX8_init_148 rfl ?_
  refine a_new (tm := [.null, .null, .null, .int 0]) (gP_f hG _) dX8_init_149 KX6 kl_RX8_75 kt_RX6 ki_RX6 rfl (fun j hj => by rcases (show j = 0 ∨ j = 1 ∨ j = 2 ∨ j = 3 by omega) with rfl | rfl | rfl | rfl <;> rfl) (Nat.le_of_ble_eq_true rfl) (Nat.le_of_ble_eq_true rfl) ?_
  show aW G cX8_init RX8 "<init>" 1 none _ _ aX _ _ SS144 [(0, .ref (gP G 0))] 152 [.ref (gP G 51), .ref (gP G 0)]
  refine a_dupR dX8_init_152 ?_
  refine a_aload_n 0 dX8_init_153 rfl ?_
  refine a_getR (a := 2) (j := 2) dX8_init_154 KX8 rfl (by decide) rfl kf_RX8_20 ?_
  refine a_callIV (As := [.ref (gP G 2)]) dX8_init_157 mX6_init kv_X6_init rfl km_RX8_77 rfl (CT_X6_init_51 hG) rfl (Nat.le_of_ble_eq_true rfl) (Nat.le_of_ble_eq_true rfl) ⟨(Nat.le_of_ble_eq_true rfl), (Nat.le_of_ble_eq_true rfl)⟩ (Nat.le_of_ble_eq_true rfl) ?_
  show aW G cX8_init RX8 "<init>" 1 none _ _ aX _ _ SS155 [(0, .ref (gP G 0))] 160 [.ref (gP G 51), .ref (gP G 0)]
  refine a_putRF (j := 12) dX8_init_160 KX8 rfl (by decide) (Nat.le_of_ble_eq_true rfl) rfl rfl rfl rfl rfl kf_RX8_78 ?_
  show aW G cX8_init RX8 "<init>" 1 none _ _ aX _ _ SS156 [(0, .ref (gP G 0))] 163 []
  refine a_aload_n 0 dX8_init_163 rfl ?_
  refine a_new (tm := [.null, .long 0]) (gP_f hG _) dX8_init_164 KX2 kl_RX8_82 kt_RX2 ki_RX2 rfl (fun j hj => by rcases (show j = 0 ∨ j = 1 by omega) with rfl | rfl <;> rfl) (Nat.le_of_ble_eq_true rfl) (Nat.le_of_ble_eq_true rfl) ?_
  show aW G cX8_init RX8 "<init>" 1 none _ _ aX _ _ SS157 [(0, .ref (gP G 0))] 167 [.ref (gP G 56), .ref (gP G 0)]
  refine a_dupR dX8_init_167 ?_
  refine a_aload_n 0 dX8_init_168 rfl ?_
  refine a_getR (a := 2) (j := 2) dX8_init_169 KX8 rfl (by decide) rfl kf_RX8_20 ?_
  refine a_callIV (As := [.ref (gP G 2)]) dX8_init_172 mX2_init kv_X2_init rfl km_RX8_84 rfl (CT_X2_init_56 hG) rfl (Nat.le_of_ble_eq_true rfl) (Nat.le_of_ble_eq_true rfl) ⟨(Nat.le_of_ble_eq_true rfl), (Nat.le_of_ble_eq_true rfl)⟩ (Nat.le_of_ble_eq_true rfl) ?_
  show aW G cX8_init RX8 "<init>" 1 none _ _ aX _ _ SS159 [(0, .ref (gP G 0))] 175 [.ref (gP G 56), .ref (gP G 0)]
  refine a_putRF (j := 13) dX8_init_175 KX8 rfl (by decide) (Nat.le_of_ble_eq_true rfl) rfl rfl rfl rfl rfl kf_RX8_85 ?_
  show aW G cX8_init RX8 "<init>" 1 none _ _ aX _ _ SS160 [(0, .ref (gP G 0))] 178 []
  refine a_aload_n 0 dX8_init_178 rfl ?_
  refine a_getR (a := 26) (j := 5) dX8_init_179 KX8 rfl (by decide) rfl kf_RX8_39 ?_
  refine a_iconst dX8_init_182 ?_
  refine a_putIN (j := 6) dX8_init_183 KX7 rfl (by decide) rfl rfl rfl kf_RX8_89 ?_
  show aW G cX8_init RX8 "<init>" 1 none _ _ aX _ _ SS161 [(0, .ref (gP G 0))] 186 []
  exact a_vret dX8_init_186 rfl rfl
set_option maxRecDepth 100000 in
set_option maxHeartbeats 1000000 in
theorem CT_X9_init_57 {G : sG} (hG : gF G = false) : aM G yX9_init cX9_init 1 none 1 30 17242 [.ref (gP G 57)] SS162 (0, SS226) := by
  refine aM_of (by decide) (Nat.le_of_ble_eq_true rfl) ?_
  show aW G cX9_init RX9 "<init>" 1 none _ _ aX 0 0 SS162 [(0, .ref (gP G 57))] 0 []
  refine a_aload_n 0 dX9_init_0 rfl ?_
  refine a_objinit dX9_init_1 km_RX9_1 kx_objI kx_obj ⟨(Nat.le_of_ble_eq_true rfl), (Nat.le_of_ble_eq_true rfl)⟩ (Nat.le_of_ble_eq_true rfl) ?_
  refine a_aload_n 0 dX9_init_4 rfl ?_
  refine a_sipush dX9_init_5 (by decide) ?_
  refine a_newB (N := 400) (gP_f hG _) dX9_init_8 ka_byte (by decide) (by decide) (Nat.le_of_ble_eq_true rfl) (Nat.le_of_ble_eq_true rfl) ?_
  show aW G cX9_init RX9 "<init>" 1 none _ _ aX _ _ SS163 [(0, .ref (gP G 57))] 10 [.ref (gP G 58), .ref (gP G 57)]
  refine a_putRF (j := 1) dX9_init_10 KX9 rfl (by decide) (Nat.le_of_ble_eq_true rfl) rfl rfl rfl rfl rfl kf_RX9_7 ?_
  show aW G cX9_init RX9 "<init>" 1 none _ _ aX _ _ SS164 [(0, .ref (gP G 57))] 13 []
  refine a_aload_n 0 dX9_init_13 rfl ?_
  refine a_iconst dX9_init_14 ?_
  refine a_newI (N := 2) (gP_f hG _) dX9_init_15 ka_int (by decide) (by decide) (Nat.le_of_ble_eq_true rfl) (Nat.le_of_ble_eq_true rfl) ?_
  show aW G cX9_init RX9 "<init>" 1 none _ _ aX _ _ SS165 [(0, .ref (gP G 57))] 17 [.ref (gP G 59), .ref (gP G 57)]
  refine a_putRF (j := 3) dX9_init_17 KX9 rfl (by decide) (Nat.le_of_ble_eq_true rfl) rfl rfl rfl rfl rfl kf_RX9_13 ?_
  show aW G cX9_init RX9 "<init>" 1 none _ _ aX _ _ SS166 [(0, .ref (gP G 57))] 20 []
  refine a_aload_n 0 dX9_init_20 rfl ?_
  refine a_iconst dX9_init_21 ?_
  refine a_newI (N := 2) (gP_f hG _) dX9_init_22 ka_int (by decide) (by decide) (Nat.le_of_ble_eq_true rfl) (Nat.le_of_ble_eq_true rfl) ?_
  show aW G cX9_init RX9 "<init>" 1 none _ _ aX _ _ SS167 [(0, .ref (gP G 57))] 24 [.ref (gP G 60), .ref (gP G 57)]
  refine a_putRF (j := 4) dX9_init_24 KX9 rfl (by decide) (Nat.le_of_ble_eq_true rfl) rfl rfl rfl rfl rfl kf_RX9_17 ?_
  show aW G cX9_init RX9 "<init>" 1 none _ _ aX _ _ SS168 [(0, .ref (gP G 57))] 27 []
  refine a_aload_n 0 dX9_init_27 rfl ?_
  refine a_iconst dX9_init_28 ?_
  refine a_newI (N := 2) (gP_f hG _) dX9_init_29 ka_int (by decide) (by decide) (Nat.le_of_ble_eq_true rfl) (Nat.le_of_ble_eq_true rfl) ?_
  show aW G cX9_init RX9 "<init>" 1 none _ _ aX _ _ SS169 [(0, .ref (gP G 57))] 31 [.ref (gP G 61), .ref (gP G 57)]
  refine a_putRF (j := 5) dX9_init_31 KX9 rfl (by decide) (Nat.le_of_ble_eq_true rfl) rfl rfl rfl rfl rfl kf_RX9_20 ?_
  show aW G cX9_init RX9 "<init>" 1 none _ _ aX _ _ SS170 [(0, .ref (gP G 57))] 34 []
  refine a_aload_n 0 dX9_init_34 rfl ?_
  refine a_iconst dX9_init_35 ?_
  refine a_newI (N := 2) (gP_f hG _) dX9_init_36 ka_int (by decide) (by decide) (Nat.le_of_ble_eq_true rfl) (Nat.le_of_ble_eq_true rfl) ?_
  show aW G cX9_init RX9 "<init>" 1 none _ _ aX _ _ SS171 [(0, .ref (gP G 57))] 38 [.ref (gP G 62), .ref (gP G 57)]
  refine a_putRF (j := 6) dX9_init_38 KX9 rfl (by decide) (Nat.le_of_ble_eq_true rfl) rfl rfl rfl rfl rfl kf_RX9_23 ?_
  show aW G cX9_init RX9 "<init>" 1 none _ _ aX _ _ SS172 [(0, .ref (gP G 57))] 41 []
  refine a_aload_n 0 dX9_init_41 rfl ?_
  refine a_bipush dX9_init_42 (by decide) ?_
  refine a_newI (N := 112) (gP_f hG _) dX9_init_44 ka_int (by decide) (by decide) (Nat.le_of_ble_eq_true rfl) (Nat.le_of_ble_eq_true rfl) ?_
  show aW G cX9_init RX9 "<init>" 1 none _ _ aX _ _ SS173 [(0, .ref (gP G 57))] 46 [.ref (gP G 63), .ref (gP G 57)]
  refine a_putRF (j := 7) dX9_init_46 KX9 rfl (by decide) (Nat.le_of_ble_eq_true rfl) rfl rfl rfl rfl rfl kf_RX9_26 ?_
  show aW G cX9_init RX9 "<init>" 1 none _ _ aX _ _ SS174 [(0, .ref (gP G 57))] 49 []
  refine a_aload_n 0 dX9_init_49 rfl ?_
  refine a_bipush dX9_init_50 (by decide) ?_
  refine a_newI (N := 6) (gP_f hG _) dX9_init_52 ka_int (by decide) (by decide) (Nat.le_of_ble_eq_true rfl) (Nat.le_of_ble_eq_true rfl) ?_
  show aW G cX9_init RX9 "<init>" 1 none _ _ aX _ _ SS175 [(0, .ref (gP G 57))] 54 [.ref (gP G 64), .ref (gP G 57)]
  refine a_putRF (j := 8) dX9_init_54 KX9 rfl (by decide) (Nat.le_of_ble_eq_true rfl) rfl rfl rfl rfl rfl kf_RX9_29 ?_
  show aW G cX9_init RX9 "<init>" 1 none _ _ aX _ _ SS176 [(0, .ref (gP G 57))] 57 []
  refine a_aload_n 0 dX9_init_57 rfl ?_
  refine a_bipush dX9_init_58 (by decide) ?_
  refine a_newI (N := 6) (gP_f hG _) dX9_init_60 ka_int (by decide) (by decide) (Nat.le_of_ble_eq_true rfl) (Nat.le_of_ble_eq_true rfl) ?_
  show aW G cX9_init RX9 "<init>" 1 none _ _ aX _ _ SS177 [(0, .ref (gP G 57))] 62 [.ref (gP G 65), .ref (gP G 57)]
  refine a_putRF (j := 9) dX9_init_62 KX9 rfl (by decide) (Nat.le_of_ble_eq_true rfl) rfl rfl rfl rfl rfl kf_RX9_32 ?_
  show aW G cX9_init RX9 "<init>" 1 none _ _ aX _ _ SS178 [(0, .ref (gP G 57))] 65 []
  refine a_aload_n 0 dX9_init_65 rfl ?_
  refine a_bipush dX9_init_66 (by decide) ?_
  refine a_newI (N := 16) (gP_f hG _) dX9_init_68 ka_int (by decide) (by decide) (Nat.le_of_ble_eq_true rfl) (Nat.le_of_ble_eq_true rfl) ?_
  show aW G cX9_init RX9 "<init>" 1 none _ _ aX _ _ SS179 [(0, .ref (gP G 57))] 70 [.ref (gP G 66), .ref (gP G 57)]
  refine a_putRF (j := 10) dX9_init_70 KX9 rfl (by decide) (Nat.le_of_ble_eq_true rfl) rfl rfl rfl rfl rfl kf_RX9_35 ?_
  show aW G cX9_init RX9 "<init>" 1 none _ _ aX _ _ SS180 [(0, .ref (gP G 57))] 73 []
  refine a_aload_n 0 dX9_init_73 rfl ?_
  refine a_bipush dX9_init_74 (by decide) ?_
  refine a_newI (N := 16) (gP_f hG _) dX9_init_76 ka_int (by decide) (by decide) (Nat.le_of_ble_eq_true rfl) (Nat.le_of_ble_eq_true rfl) ?_
  show aW G cX9_init RX9 "<init>" 1 none _ _ aX _ _ SS181 [(0, .ref (gP G 57))] 78 [.ref (gP G 67), .ref (gP G 57)]
  refine a_putRF (j := 11) dX9_init_78 KX9 rfl (by decide) (Nat.le_of_ble_eq_true rfl) rfl rfl rfl rfl rfl kf_RX9_38 ?_
  show aW G cX9_init RX9 "<init>" 1 none _ _ aX _ _ SS182 [(0, .ref (gP G 57))] 81 []
  refine a_aload_n 0 dX9_init_81 rfl ?_
  refine a_iconst dX9_init_82 ?_
  refine a_newI (N := 3) (gP_f hG _) dX9_init_83 ka_int (by decide) (by decide) (Nat.le_of_ble_eq_true rfl) (Nat.le_of_ble_eq_true rfl) ?_
  show aW G cX9_init RX9 "<init>" 1 none _ _ aX _ _ SS183 [(0, .ref (gP G 57))] 85 [.ref (gP G 68), .ref (gP G 57)]
  refine a_putRF (j := 17) dX9_init_85 KX9 rfl (by decide) (Nat.le_of_ble_eq_true rfl) rfl rfl rfl rfl rfl kf_RX9_41 ?_
  show aW G cX9_init RX9 "<init>" 1 none _ _ aX _ _ SS184 [(0, .ref (gP G 57))] 88 []
  refine a_aload_n 0 dX9_init_88 rfl ?_
  refine a_iconst dX9_init_89 ?_
  refine a_newZ (N := 3) (gP_f hG _) dX9_init_90 ka_boolean (by decide) (by decide) (Nat.le_of_ble_eq_true rfl) (Nat.le_of_ble_eq_true rfl) ?_
  show aW G cX9_init RX9 "<init>" 1 none _ _ aX _ _ SS185 [(0, .ref (gP G 57))] 92 [.ref (gP G 69), .ref (gP G 57)]
  refine a_putRF (j := 18) dX9_init_92 KX9 rfl (by decide) (Nat.le_of_ble_eq_true rfl) rfl rfl rfl rfl rfl kf_RX9_44 ?_
  show aW G cX9_init RX9 "<init>" 1 none _ _ aX _ _ SS186 [(0, .ref (gP G 57))] 95 []
  refine a_aload_n 0 dX9_init_95 rfl ?_
  refine a_iconst dX9_init_96 ?_
  refine a_newI (N := 3) (gP_f hG _) dX9_init_97 ka_int (by decide) (by decide) (Nat.le_of_ble_eq_true rfl) (Nat.le_of_ble_eq_true rfl) ?_
  show aW G cX9_init RX9 "<init>" 1 none _ _ aX _ _ SS187 [(0, .ref (gP G 57))] 99 [.ref (gP G 70), .ref (gP G 57)]
  refine a_putRF (j := 19) dX9_init_99 KX9 rfl (by decide) (Nat.le_of_ble_eq_true rfl) rfl rfl rfl rfl rfl kf_RX9_48 ?_
  show aW G cX9_init RX9 "<init>" 1 none _ _ aX _ _ SS188 [(0, .ref (gP G 57))] 102 []
  refine a_aload_n 0 dX9_init_102 rfl ?_
  refine a_iconst dX9_init_103 ?_
  refine a_newI (N := 3) (gP_f hG _) dX9_init_104 ka_int (by decide) (by decide) (Nat.le_of_ble_eq_true rfl) (Nat.le_of_ble_eq_true rfl) ?_
  show aW G cX9_init RX9 "<init>" 1 none _ _ aX _ _ SS189 [(0, .ref (gP G 57))] 106 [.ref (gP G 71), .ref (gP G 57)]
  refine a_putRF (j := 20) dX9_init_106 KX9 rfl (by decide) (Nat.le_of_ble_eq_true rfl) rfl rfl rfl rfl rfl kf_RX9_51 ?_
  show aW G cX9_init RX9 "<init>" 1 none _ _ aX _ _ SS190 [(0, .ref (gP G 57))] 109 []
  refine a_aload_n 0 dX9_init_109 rfl ?_
  refine a_iconst dX9_init_110 ?_
  refine a_newI (N := 3) (gP_f hG _) dX9_init_111 ka_int (by decide) (by decide) (Nat.le_of_ble_eq_true rfl) (Nat.le_of_ble_eq_true rfl) ?_
  show aW G cX9_init RX9 "<init>" 1 none _ _ aX _ _ SS191 [(0, .ref (gP G 57))] 113 [.ref (gP G 72), .ref (gP G 57)]
  refine a_putRF (j := 21) dX9_init_113 KX9 rfl (by decide) (Nat.le_of_ble_eq_true rfl) rfl rfl rfl rfl rfl kf_RX9_54 ?_
  show aW G cX9_init RX9 "<init>" 1 none _ _ aX _ _ SS192 [(0, .ref (gP G 57))] 116 []
  refine a_aload_n 0 dX9_init_116 rfl ?_
  refine a_bipush dX9_init_117 (by decide) ?_
  refine a_newI (N := 9) (gP_f hG _) dX9_init_119 ka_int (by decide) (by decide) (Nat.le_of_ble_eq_true rfl) (Nat.le_of_ble_eq_true rfl) ?_
  show aW G cX9_init RX9 "<init>" 1 none _ _ aX _ _ SS193 [(0, .ref (gP G 57))] 121 [.ref (gP G 73), .ref (gP G 57)]
  refine a_putRF (j := 22) dX9_init_121 KX9 rfl (by decide) (Nat.le_of_ble_eq_true rfl) rfl rfl rfl rfl rfl kf_RX9_57 ?_
  show aW G cX9_init RX9 "<init>" 1 none _ _ aX _ _ SS194 [(0, .ref (gP G 57))] 124 []
  refine a_aload_n 0 dX9_init_124 rfl ?_
  refine a_bipush dX9_init_125 (by decide) ?_
  refine a_newI (N := 9) (gP_f hG _) dX9_init_127 ka_int (by decide) (by decide) (Nat.le_of_ble_eq_true rfl) (Nat.le_of_ble_eq_true rfl) ?_
  show aW G cX9_init RX9 "<init>" 1 none _ _ aX _ _ SS195 [(0, .ref (gP G 57))] 129 [.ref (gP G 74), .ref (gP G 57)]
  refine a_putRF (j := 23) dX9_init_129 KX9 rfl (by decide) (Nat.le_of_ble_eq_true rfl) rfl rfl rfl rfl rfl kf_RX9_60 ?_
  show aW G cX9_init RX9 "<init>" 1 none _ _ aX _ _ SS196 [(0, .ref (gP G 57))] 132 []
  refine a_aload_n 0 dX9_init_132 rfl ?_
  refine a_bipush dX9_init_133 (by decide) ?_
  refine a_newZ (N := 9) (gP_f hG _) dX9_init_135 ka_boolean (by decide) (by decide) (Nat.le_of_ble_eq_true rfl) (Nat.le_of_ble_eq_true rfl) ?_
  show aW G cX9_init RX9 "<init>" 1 none _ _ aX _ _ SS197 [(0, .ref (gP G 57))] 137 [.ref (gP G 75), .ref (gP G 57)]
  refine a_putRF (j := 24) dX9_init_137 KX9 rfl (by decide) (Nat.le_of_ble_eq_true rfl) rfl rfl rfl rfl rfl kf_RX9_63 ?_
  show aW G cX9_init RX9 "<init>" 1 none _ _ aX _ _ SS198 [(0, .ref (gP G 57))] 140 []
  refine a_aload_n 0 dX9_init_140 rfl ?_
  refine a_iconst dX9_init_141 ?_
  refine a_newZ (N := 2) (gP_f hG _) dX9_init_142 ka_boolean (by decide) (by decide) (Nat.le_of_ble_eq_true rfl) (Nat.le_of_ble_eq_true rfl) ?_
  show aW G cX9_init RX9 "<init>" 1 none _ _ aX _ _ SS199 [(0, .ref (gP G 57))] 144 [.ref (gP G 76), .ref (gP G 57)]
  refine a_putRF (j := 25) dX9_init_144 KX9 rfl (by decide) (Nat.le_of_ble_eq_true rfl) rfl rfl rfl rfl rfl kf_RX9_66 ?_
  show aW G cX9_init RX9 "<init>" 1 none _ _ aX _ _ SS200 [(0, .ref (gP G 57))] 147 []
  refine a_aload_n 0 dX9_init_147 rfl ?_
  refine a_sipush dX9_init_148 (by decide) ?_
  refine a_newI (N := 4096) (gP_f hG _) dX9_init_151 ka_int (by decide) (by decide) (Nat.le_of_ble_eq_true rfl) (Nat.le_of_ble_eq_true rfl) ?_
  show aW G cX9_init RX9 "<init>" 1 none _ _ aX _ _ SS201 [(0, .ref (gP G 57))] 153 [.ref (gP G 77), .ref (gP G 57)]
  refine a_putRF (j := 26) dX9_init_153 KX9 rfl (by decide) (Nat.le_of_ble_eq_true rfl) rfl rfl rfl rfl rfl kf_RX9_69 ?_
  show aW G cX9_init RX9 "<init>" 1 none _ _ aX _ _ SS202 [(0, .ref (gP G 57))] 156 []
  refine a_aload_n 0 dX9_init_156 rfl ?_
  refine a_sipush dX9_init_157 (by decide) ?_
  refine a_newI (N := 4096) (gP_f hG _) dX9_init_160 ka_int (by decide) (by decide) (Nat.le_of_ble_eq_true rfl) (Nat.le_of_ble_eq_true rfl) ?_
  show aW G cX9_init RX9 "<init>" 1 none _ _ aX _ _ SS203 [(0, .ref (gP G 57))] 162 [.ref (gP G 78), .ref (gP G 57)]
  refine a_putRF (j := 27) dX9_init_162 KX9 rfl (by decide) (Nat.le_of_ble_eq_true rfl) rfl rfl rfl rfl rfl kf_RX9_72 ?_
  show aW G cX9_init RX9 "<init>" 1 none _ _ aX _ _ SS204 [(0, .ref (gP G 57))] 165 []
  refine a_aload_n 0 dX9_init_165 rfl ?_
  refine a_sipush dX9_init_166 (by decide) ?_
  refine a_newI (N := 4096) (gP_f hG _) dX9_init_169 ka_int (by decide) (by decide) (Nat.le_of_ble_eq_true rfl) (Nat.le_of_ble_eq_true rfl) ?_
  show aW G cX9_init RX9 "<init>" 1 none _ _ aX _ _ SS205 [(0, .ref (gP G 57))] 171 [.ref (gP G 79), .ref (gP G 57)]
  refine a_putRF (j := 28) dX9_init_171 KX9 rfl (by decide) (Nat.le_of_ble_eq_true rfl) rfl rfl rfl rfl rfl kf_RX9_75 ?_
  show aW G cX9_init RX9 "<init>" 1 none _ _ aX _ _ SS206 [(0, .ref (gP G 57))] 174 []
  refine a_aload_n 0 dX9_init_174 rfl ?_
  refine a_sipush dX9_init_175 (by decide) ?_
  refine a_newI (N := 4096) (gP_f hG _) dX9_init_178 ka_int (by decide) (by decide) (Nat.le_of_ble_eq_true rfl) (Nat.le_of_ble_eq_true rfl) ?_
  show aW G cX9_init RX9 "<init>" 1 none _ _ aX _ _ SS207 [(0, .ref (gP G 57))] 180 [.ref (gP G 80), .ref (gP G 57)]
  refine a_putRF (j := 29) dX9_init_180 KX9 rfl (by decide) (Nat.le_of_ble_eq_true rfl) rfl rfl rfl rfl rfl kf_RX9_78 ?_
  show aW G cX9_init RX9 "<init>" 1 none _ _ aX _ _ SS208 [(0, .ref (gP G 57))] 183 []
  refine a_aload_n 0 dX9_init_183 rfl ?_
  refine a_sipush dX9_init_184 (by decide) ?_
  refine a_newI (N := 216) (gP_f hG _) dX9_init_187 ka_int (by decide) (by decide) (Nat.le_of_ble_eq_true rfl) (Nat.le_of_ble_eq_true rfl) ?_
  show aW G cX9_init RX9 "<init>" 1 none _ _ aX _ _ SS209 [(0, .ref (gP G 57))] 189 [.ref (gP G 81), .ref (gP G 57)]
  refine a_putRF (j := 30) dX9_init_189 KX9 rfl (by decide) (Nat.le_of_ble_eq_true rfl) rfl rfl rfl rfl rfl kf_RX9_81 ?_
  show aW G cX9_init RX9 "<init>" 1 none _ _ aX _ _ SS210 [(0, .ref (gP G 57))] 192 []
  refine a_aload_n 0 dX9_init_192 rfl ?_
  refine a_bipush dX9_init_193 (by decide) ?_
  refine a_newI (N := 8) (gP_f hG _) dX9_init_195 ka_int (by decide) (by decide) (Nat.le_of_ble_eq_true rfl) (Nat.le_of_ble_eq_true rfl) ?_
  show aW G cX9_init RX9 "<init>" 1 none _ _ aX _ _ SS211 [(0, .ref (gP G 57))] 197 [.ref (gP G 82), .ref (gP G 57)]
  refine a_putRF (j := 31) dX9_init_197 KX9 rfl (by decide) (Nat.le_of_ble_eq_true rfl) rfl rfl rfl rfl rfl kf_RX9_84 ?_
  show aW G cX9_init RX9 "<init>" 1 none _ _ aX _ _ SS212 [(0, .ref (gP G 57))] 200 []
  refine a_aload_n 0 dX9_init_200 rfl ?_
  refine a_bipush dX9_init_201 (by decide) ?_
  refine a_newI (N := 8) (gP_f hG _) dX9_init_203 ka_int (by decide) (by decide) (Nat.le_of_ble_eq_true rfl) (Nat.le_of_ble_eq_true rfl) ?_
  show aW G cX9_init RX9 "<init>" 1 none _ _ aX _ _ SS213 [(0, .ref (gP G 57))] 205 [.ref (gP G 83), .ref (gP G 57)]
  refine a_putRF (j := 32) dX9_init_205 KX9 rfl (by decide) (Nat.le_of_ble_eq_true rfl) rfl rfl rfl rfl rfl kf_RX9_87 ?_
  show aW G cX9_init RX9 "<init>" 1 none _ _ aX _ _ SS214 [(0, .ref (gP G 57))] 208 []
  refine a_aload_n 0 dX9_init_208 rfl ?_
  refine a_iconst dX9_init_209 ?_
  refine a_newI (N := 3) (gP_f hG _) dX9_init_210 ka_int (by decide) (by decide) (Nat.le_of_ble_eq_true rfl) (Nat.le_of_ble_eq_true rfl) ?_
  show aW G cX9_init RX9 "<init>" 1 none _ _ aX _ _ SS215 [(0, .ref (gP G 57))] 212 [.ref (gP G 84), .ref (gP G 57)]
  refine a_putRF (j := 33) dX9_init_212 KX9 rfl (by decide) (Nat.le_of_ble_eq_true rfl) rfl rfl rfl rfl rfl kf_RX9_90 ?_
  show aW G cX9_init RX9 "<init>" 1 none _ _ aX _ _ SS216 [(0, .ref (gP G 57))] 215 []
  refine a_aload_n 0 dX9_init_215 rfl ?_
  refine a_iconst dX9_init_216 ?_
  refine a_newI (N := 3) (gP_f hG _) dX9_init_217 ka_int (by decide) (by decide) (Nat.le_of_ble_eq_true rfl) (Nat.le_of_ble_eq_true rfl) ?_
  show aW G cX9_init RX9 "<init>" 1 none _ _ aX _ _ SS217 [(0, .ref (gP G 57))] 219 [.ref (gP G 85), .ref (gP G 57)]
  refine a_putRF (j := 34) dX9_init_219 KX9 rfl (by decide) (Nat.le_of_ble_eq_true rfl) rfl rfl rfl rfl rfl kf_RX9_93 ?_
  show aW G cX9_init RX9 "<init>" 1 none _ _ aX _ _ SS218 [(0, .ref (gP G 57))] 222 []
  refine a_aload_n 0 dX9_init_222 rfl ?_
  refine a_iconst dX9_init_223 ?_
  refine a_newL (N := 4) (gP_f hG _) dX9_init_224 ka_long (by decide) (by decide) (Nat.le_of_ble_eq_true rfl) (Nat.le_of_ble_eq_true rfl) ?_
  show aW G cX9_init RX9 "<init>" 1 none _ _ aX _ _ SS219 [(0, .ref (gP G 57))] 226 [.ref (gP G 86), .ref (gP G 57)]
  refine a_putRF (j := 35) dX9_init_226 KX9 rfl (by decide) (Nat.le_of_ble_eq_true rfl) rfl rfl rfl rfl rfl kf_RX9_96 ?_
  show aW G cX9_init RX9 "<init>" 1 none _ _ aX _ _ SS220 [(0, .ref (gP G 57))] 229 []
  refine a_aload_n 0 dX9_init_229 rfl ?_
  refine a_bipush dX9_init_230 (by decide) ?_
  refine a_newL (N := 8) (gP_f hG _) dX9_init_232 ka_long (by decide) (by decide) (Nat.le_of_ble_eq_true rfl) (Nat.le_of_ble_eq_true rfl) ?_
  show aW G cX9_init RX9 "<init>" 1 none _ _ aX _ _ SS221 [(0, .ref (gP G 57))] 234 [.ref (gP G 87), .ref (gP G 57)]
  refine a_putRF (j := 37) dX9_init_234 KX9 rfl (by decide) (Nat.le_of_ble_eq_true rfl) rfl rfl rfl rfl rfl kf_RX9_100 ?_
  show aW G cX9_init RX9 "<init>" 1 none _ _ aX _ _ SS222 [(0, .ref (gP G 57))] 237 []
  refine a_aload_n 0 dX9_init_237 rfl ?_
  refine a_getR (a := 61) (j := 5) dX9_init_238 KX9 rfl (by decide) rfl kf_RX9_20 ?_
  refine a_iconst dX9_init_241 ?_
  refine a_bipush dX9_init_242 (by decide) ?_
  refine a_iast (x' := 0) dX9_init_244 rfl (by decide) (by decide) rfl ?_
  show aW G cX9_init RX9 "<init>" 1 none _ _ aX _ _ SS223 [(0, .ref (gP G 57))] 245 []
  refine a_aload_n 0 dX9_init_245 rfl ?_
  refine a_getR (a := 62) (j := 6) dX9_init_246 KX9 rfl (by decide) rfl kf_RX9_23 ?_
  refine a_iconst dX9_init_249 ?_
  refine a_iconst dX9_init_250 ?_
  refine a_iast (x' := 0) dX9_init_251 rfl (by decide) (by decide) rfl ?_
  show aW G cX9_init RX9 "<init>" 1 none _ _ aX _ _ SS224 [(0, .ref (gP G 57))] 252 []
  refine a_aload_n 0 dX9_init_252 rfl ?_
  refine a_getR (a := 72) (j := 21) dX9_init_253 KX9 rfl (by decide) rfl kf_RX9_54 ?_
  refine a_iconst dX9_init_256 ?_
  refine a_iconst dX9_init_257 ?_
  refine a_iast (x' := 0) dX9_init_258 rfl (by decide) (by decide) rfl ?_
  show aW G cX9_init RX9 "<init>" 1 none _ _ aX _ _ SS225 [(0, .ref (gP G 57))] 259 []
  refine a_aload_n 0 dX9_init_259 rfl ?_
  refine a_getR (a := 87) (j := 37) dX9_init_260 KX9 rfl (by decide) rfl kf_RX9_100 ?_
  refine a_iconst dX9_init_263 ?_
  refine a_lconst (z := 1) dX9_init_264 (by decide) ?_
  refine a_last (x' := 0) dX9_init_265 rfl (by decide) (by decide) rfl ?_
  show aW G cX9_init RX9 "<init>" 1 none _ _ aX _ _ SS226 [(0, .ref (gP G 57))] 266 []
  exact a_vret dX9_init_266 rfl rfl
def mkPh : List sE := [
  .inl (8, [.ref 1, .int 0, .ref 2, .ref 12, .ref 22, .ref 26, .ref 27, .ref 28, .ref 29, .ref 34, .ref 39, .ref 49, .ref 51, .ref 56]),
  .inr (.byte, 400, gN),
  .inl (1, [.ref 3, .ref 8, .ref 9, .ref 10, .ref 11, .int 0, .int 0, .int 0, .int 0]),
  .inr (.array .int, 4, fun i => some (4 + i)),
  .inr (.int, 14, gN),
  .inr (.int, 14, gN),
  .inr (.int, 14, gN),
  .inr (.int, 14, gN),
  .inr (.int, 3, gN),
  .inr (.int, 3, gN),
  .inr (.int, 8, gN),
  .inr (.int, 8, gN),
  .inl (1, [.ref 13, .ref 18, .ref 19, .ref 20, .ref 21, .int 0, .int 0, .int 0, .int 0]),
  .inr (.array .int, 4, fun i => some (14 + i)),
  .inr (.int, 14, gN),
  .inr (.int, 14, gN),
  .inr (.int, 14, gN),
  .inr (.int, 14, gN),
  .inr (.int, 3, gN),
  .inr (.int, 3, gN),
  .inr (.int, 8, gN),
  .inr (.int, 8, gN),
  .inl (4, [.ref 1, .ref 12, .ref 23, .ref 24, .ref 25, .int 0, .int 0, .int 0, .int 0]),
  .inr (.int, 401, gN),
  .inr (.int, 401, gN),
  .inr (.int, 401, gN),
  .inl (7, [.int 0, .int 0, .int 0, .int 0, .int 0, .int 0, .int 0, .int 0]),
  .inl (7, [.int 0, .int 0, .int 0, .int 0, .int 0, .int 0, .int 0, .int 0]),
  .inl (7, [.int 0, .int 0, .int 0, .int 0, .int 0, .int 0, .int 0, .int 0]),
  .inl (3, [.ref 2, .int 0, .int 0, .ref 30, .int 0, .long 0, .ref 31, .ref 32, .ref 33]),
  .inr (.int, 48, gN),
  .inr (.long, 0, gN),
  .inr (.long, 0, gN),
  .inr (.long, 0, gN),
  .inl (3, [.ref 2, .int 0, .int 0, .ref 35, .int 0, .long 0, .ref 36, .ref 37, .ref 38]),
  .inr (.int, 48, gN),
  .inr (.long, 0, gN),
  .inr (.long, 0, gN),
  .inr (.long, 0, gN),
  .inl (0, [.ref 2, .ref 40, .ref 42, .ref 44, .ref 45, .ref 46, .ref 47, .ref 48, .int 0, .int 0, .int 0, .int 0, .int 0, .int 0, .int 0, .int 0]),
  .inl (5, [.ref 41]),
  .inr (.long, 4, gN),
  .inl (5, [.ref 43]),
  .inr (.long, 4, gN),
  .inr (.int, 192, gN),
  .inr (.int, 9, gN),
  .inr (.int, 3, gN),
  .inr (.int, 8, gN),
  .inr (.int, 8, gN),
  .inl (5, [.ref 50]),
  .inr (.long, 4, gN),
  .inl (6, [.ref 2, .ref 52, .ref 54, .int 0]),
  .inl (5, [.ref 53]),
  .inr (.long, 4, gN),
  .inl (5, [.ref 55]),
  .inr (.long, 4, gN),
  .inl (2, [.ref 2, .long 0]),
  .inl (9, [.long 0, .ref 58, .int 0, .ref 59, .ref 60, .ref 61, .ref 62, .ref 63, .ref 64, .ref 65, .ref 66, .ref 67, .int 0, .int 0, .int 0, .int 0, .int 0, .ref 68, .ref 69, .ref 70, .ref 71, .ref 72, .ref 73, .ref 74, .ref 75, .ref 76, .ref 77, .ref 78, .ref 79, .ref 80, .ref 81, .ref 82, .ref 83, .ref 84, .ref 85, .ref 86, .int 0, .ref 87]),
  .inr (.byte, 400, gN),
  .inr (.int, 2, gN),
  .inr (.int, 2, gN),
  .inr (.int, 2, gN),
  .inr (.int, 2, gN),
  .inr (.int, 112, gN),
  .inr (.int, 6, gN),
  .inr (.int, 6, gN),
  .inr (.int, 16, gN),
  .inr (.int, 16, gN),
  .inr (.int, 3, gN),
  .inr (.boolean, 3, gN),
  .inr (.int, 3, gN),
  .inr (.int, 3, gN),
  .inr (.int, 3, gN),
  .inr (.int, 9, gN),
  .inr (.int, 9, gN),
  .inr (.boolean, 9, gN),
  .inr (.boolean, 2, gN),
  .inr (.int, 4096, gN),
  .inr (.int, 4096, gN),
  .inr (.int, 4096, gN),
  .inr (.int, 4096, gN),
  .inr (.int, 216, gN),
  .inr (.int, 8, gN),
  .inr (.int, 8, gN),
  .inr (.int, 3, gN),
  .inr (.int, 3, gN),
  .inr (.long, 4, gN),
  .inr (.long, 8, gN)]
set_option maxRecDepth 1000000 in
set_option maxHeartbeats 4000000 in
theorem SS_end : SS226.1 = mkPh := by rfl
/-- the start, told by the cells of mkSh -/
def SSL : sM := fun k => SS226.2 (pmT k)
def gS (G : sG) (f : Bool) : sG := (G.1, G.2.1, G.2.2.1, G.2.2.2.1, G.2.2.2.2.1, G.2.2.2.2.2.1, f)
def mvV (t : Value) : Value := match t with
  | .ref a => .ref (pmT a)
  | v => v
def mvE (e : sE) : sE := match e with
  | .inl o => .inl (o.1, o.2.map mvV)
  | .inr x => .inr x
def okE (e : sE) : Prop := match e with
  | .inl _ => True
  | .inr x => ∀ j, j < x.2.1 → ∀ a, x.2.2 j = some a → a < 30
theorem ok_gN (t : FieldType) (n : Nat) : okE (.inr (t, n, gN)) := fun j _ a h => by cases h
theorem ok_rw {b : Nat} (hb : b ≤ 26) : okE (.inr (.array .int, 4, fun i => some (b + i))) := fun j hj a h => by
  have hj2 : j < 4 := hj
  have h2 : some (b + j) = some a := h
  cases h2; omega
theorem mv_V (G : sG) (t : Value) (z : Int) : fillV (gP (gS G true)) t z = fillV (gP (gS G false)) (mvV t) z := by
  cases t <;> rfl
theorem mv_A {D : va_G} {a : Nat} (G : sG) {e : sE} {f : Nat → Int} {H : Heap} (hk : okE e) (h : va_at D vwCl (a, fillE (gP (gS G false)) (gA G) (mvE e) f) H) : va_at D vwCl (a, fillE (gP (gS G true)) (gA G) e f) H := by
  cases e with
  | inl o =>
    have e9 : fillE (gP (gS G true)) (gA G) (.inl o) f = fillE (gP (gS G false)) (gA G) (mvE (.inl o)) f := by
      show Sum.inr (o.1, o.2.mapIdx (fun j t => fillV (gP (gS G true)) t (f j))) = Sum.inr (o.1, (o.2.map mvV).mapIdx (fun j t => fillV (gP (gS G false)) t (f j)))
      congr 2
      apply List.ext_getElem?
      intro i
      rw [List.getElem?_mapIdx, List.getElem?_mapIdx, List.getElem?_map]
      cases o.2[i]? with
      | none => rfl
      | some t => show some (fillV (gP (gS G true)) t (f i)) = some (fillV (gP (gS G false)) (mvV t) (f i)); rw [mv_V]
    rw [e9]; exact h
  | inr x =>
    obtain ⟨t, n, g⟩ := x
    cases t with
    | array t2 =>
      have h8 : H[a]? = some (vp_cell (gA G (.array t2)) (n, .inr (.inr (.inr (.inr (fun j => (g j).map (fun x => gP (gS G false) x))))))) := h
      show H[a]? = some (vp_cell (gA G (.array t2)) (n, .inr (.inr (.inr (.inr (fun j => (g j).map (fun x => gP (gS G true) x)))))))
      rw [vp_cell_q] at h8 ⊢
      refine h8.trans (congrArg some (arrV_congr (fun j hj => ?_)))
      cases hg : g j with
      | none => rfl
      | some b =>
        have hb : b < 30 := hk j hj b hg
        show Value.ref (gB G + b) = Value.ref (gB G + pmT b)
        rw [show pmT b = b from if_pos (Or.inl hb)]
    | _ => exact h
theorem mv_sz (e : sE) : szE (mvE e) = szE e := by
  cases e with
  | inl o => show (o.2.map mvV).length = o.2.length; rw [List.length_map]
  | inr x => rfl
set_option maxRecDepth 1000000 in
set_option maxHeartbeats 4000000 in
theorem ph_all : (List.range 88).map (fun k => mkPh[pmT k]?) = (mkSh (30, 31, 32, 34, 35, 36) []).map (fun e => some (mvE e)) := by rfl
theorem ph_at {k : Nat} {e : sE} (h : (mkSh (30, 31, 32, 34, 35, 36) [])[k]? = some e) : mkPh[pmT k]? = some (mvE e) := by
  have hk : k < 88 := by
    have := (List.getElem?_eq_some_iff.mp h).1
    rw [mkSh_len] at this
    exact this
  have h1 := congrArg (fun l => l[k]?) ph_all
  simp only [List.getElem?_map, h, Option.map_some] at h1
  rw [List.getElem?_range hk] at h1
  exact Option.some.inj h1
set_option maxRecDepth 100000 in
theorem ph_ok : ∀ e ∈ mkSh (30, 31, 32, 34, 35, 36) [], okE e := List.forall_mem_cons.mpr ⟨trivial, List.forall_mem_cons.mpr ⟨ok_gN _ _, List.forall_mem_cons.mpr ⟨trivial, List.forall_mem_cons.mpr ⟨ok_rw (by decide), List.forall_mem_cons.mpr ⟨ok_gN _ _, List.forall_mem_cons.mpr ⟨ok_gN _ _, List.forall_mem_cons.mpr ⟨ok_gN _ _, List.forall_mem_cons.mpr ⟨ok_gN _ _, List.forall_mem_cons.mpr ⟨ok_gN _ _, List.forall_mem_cons.mpr ⟨ok_gN _ _, List.forall_mem_cons.mpr ⟨ok_gN _ _, List.forall_mem_cons.mpr ⟨ok_gN _ _, List.forall_mem_cons.mpr ⟨trivial, List.forall_mem_cons.mpr ⟨ok_rw (by decide), List.forall_mem_cons.mpr ⟨ok_gN _ _, List.forall_mem_cons.mpr ⟨ok_gN _ _, List.forall_mem_cons.mpr ⟨ok_gN _ _, List.forall_mem_cons.mpr ⟨ok_gN _ _, List.forall_mem_cons.mpr ⟨ok_gN _ _, List.forall_mem_cons.mpr ⟨ok_gN _ _, List.forall_mem_cons.mpr ⟨ok_gN _ _, List.forall_mem_cons.mpr ⟨ok_gN _ _, List.forall_mem_cons.mpr ⟨trivial, List.forall_mem_cons.mpr ⟨ok_gN _ _, List.forall_mem_cons.mpr ⟨ok_gN _ _, List.forall_mem_cons.mpr ⟨ok_gN _ _, List.forall_mem_cons.mpr ⟨trivial, List.forall_mem_cons.mpr ⟨trivial, List.forall_mem_cons.mpr ⟨trivial, List.forall_mem_cons.mpr ⟨trivial, List.forall_mem_cons.mpr ⟨ok_gN _ _, List.forall_mem_cons.mpr ⟨ok_gN _ _, List.forall_mem_cons.mpr ⟨ok_gN _ _, List.forall_mem_cons.mpr ⟨trivial, List.forall_mem_cons.mpr ⟨ok_gN _ _, List.forall_mem_cons.mpr ⟨ok_gN _ _, List.forall_mem_cons.mpr ⟨ok_gN _ _, List.forall_mem_cons.mpr ⟨trivial, List.forall_mem_cons.mpr ⟨trivial, List.forall_mem_cons.mpr ⟨ok_gN _ _, List.forall_mem_cons.mpr ⟨trivial, List.forall_mem_cons.mpr ⟨ok_gN _ _, List.forall_mem_cons.mpr ⟨ok_gN _ _, List.forall_mem_cons.mpr ⟨ok_gN _ _, List.forall_mem_cons.mpr ⟨ok_gN _ _, List.forall_mem_cons.mpr ⟨ok_gN _ _, List.forall_mem_cons.mpr ⟨ok_gN _ _, List.forall_mem_cons.mpr ⟨trivial, List.forall_mem_cons.mpr ⟨ok_gN _ _, List.forall_mem_cons.mpr ⟨trivial, List.forall_mem_cons.mpr ⟨trivial, List.forall_mem_cons.mpr ⟨ok_gN _ _, List.forall_mem_cons.mpr ⟨trivial, List.forall_mem_cons.mpr ⟨ok_gN _ _, List.forall_mem_cons.mpr ⟨trivial, List.forall_mem_cons.mpr ⟨trivial, List.forall_mem_cons.mpr ⟨ok_gN _ _, List.forall_mem_cons.mpr ⟨ok_gN _ _, List.forall_mem_cons.mpr ⟨ok_gN _ _, List.forall_mem_cons.mpr ⟨ok_gN _ _, List.forall_mem_cons.mpr ⟨ok_gN _ _, List.forall_mem_cons.mpr ⟨ok_gN _ _, List.forall_mem_cons.mpr ⟨ok_gN _ _, List.forall_mem_cons.mpr ⟨ok_gN _ _, List.forall_mem_cons.mpr ⟨ok_gN _ _, List.forall_mem_cons.mpr ⟨ok_gN _ _, List.forall_mem_cons.mpr ⟨ok_gN _ _, List.forall_mem_cons.mpr ⟨ok_gN _ _, List.forall_mem_cons.mpr ⟨ok_gN _ _, List.forall_mem_cons.mpr ⟨ok_gN _ _, List.forall_mem_cons.mpr ⟨ok_gN _ _, List.forall_mem_cons.mpr ⟨ok_gN _ _, List.forall_mem_cons.mpr ⟨ok_gN _ _, List.forall_mem_cons.mpr ⟨ok_gN _ _, List.forall_mem_cons.mpr ⟨ok_gN _ _, List.forall_mem_cons.mpr ⟨ok_gN _ _, List.forall_mem_cons.mpr ⟨ok_gN _ _, List.forall_mem_cons.mpr ⟨ok_gN _ _, List.forall_mem_cons.mpr ⟨ok_gN _ _, List.forall_mem_cons.mpr ⟨ok_gN _ _, List.forall_mem_cons.mpr ⟨ok_gN _ _, List.forall_mem_cons.mpr ⟨ok_gN _ _, List.forall_mem_cons.mpr ⟨ok_gN _ _, List.forall_mem_cons.mpr ⟨ok_gN _ _, List.forall_mem_cons.mpr ⟨ok_gN _ _, List.forall_mem_cons.mpr ⟨ok_gN _ _, List.forall_mem_cons.mpr ⟨ok_gN _ _, List.forall_mem_cons.mpr ⟨ok_gN _ _, fun _ h => absurd h List.not_mem_nil⟩⟩⟩⟩⟩⟩⟩⟩⟩⟩⟩⟩⟩⟩⟩⟩⟩⟩⟩⟩⟩⟩⟩⟩⟩⟩⟩⟩⟩⟩⟩⟩⟩⟩⟩⟩⟩⟩⟩⟩⟩⟩⟩⟩⟩⟩⟩⟩⟩⟩⟩⟩⟩⟩⟩⟩⟩⟩⟩⟩⟩⟩⟩⟩⟩⟩⟩⟩⟩⟩⟩⟩⟩⟩⟩⟩⟩⟩⟩⟩⟩⟩⟩⟩⟩⟩⟩⟩
theorem flipH (G : sG) {σ : sM} {H : Heap} (hH : sH (gS G false) (mkPh, σ) H) : sH (gS G true) (mkSh (30, 31, 32, 34, 35, 36) [], fun k => σ (pmT k)) H := by
  refine ⟨fun k q hk => ?_, ?_, fun k e hk => ?_⟩
  · rw [ws_at] at hk
    cases he : (mkSh (30, 31, 32, 34, 35, 36) [])[k]? with
    | none =>
      have hk2 : ((mkSh (30, 31, 32, 34, 35, 36) [])[k]?).map (fun e => (gP (gS G true) k, fillE (gP (gS G true)) (gA (gS G true)) e (σ (pmT k)))) = some q := hk
      rw [he] at hk2; cases hk2
    | some e =>
      have hk2 : ((mkSh (30, 31, 32, 34, 35, 36) [])[k]?).map (fun e => (gP (gS G true) k, fillE (gP (gS G true)) (gA (gS G true)) e (σ (pmT k)))) = some q := hk
      rw [he] at hk2
      cases hk2
      have h9 := hH.1 (pmT k) _ (ws_some (S := (mkPh, σ)) (ph_at he))
      exact mv_A G (ph_ok e (List.mem_of_getElem? he)) h9
  · have h := hH.2.1
    have e1 : (mkPh, σ).1.length = 88 := rfl
    rw [e1] at h
    show H.size = gB G + (mkSh (30, 31, 32, 34, 35, 36) []).length
    rw [mkSh_len]
    exact h
  · have h9 := hH.2.2 (pmT k) _ (ph_at hk)
    rw [mv_sz] at h9
    exact h9
