def cS0 : ev_S := (0, fun _ => (0, 0), fun _ _ => none)
def cM0 : ev_M := (fun _ _ => 0, fun _ _ => 0)
def cS1 : ev_S := ev_nS cS0 11 18
def cS2 : ev_S := ev_nS cS1 1 15
def cS3 : ev_S := ev_nS cS2 100 48
def cS4 : ev_S := ev_pS cS3 1 0 2
def cS5 : ev_S := ev_nS cS4 100 8
def cS6 : ev_S := ev_pS cS5 1 1 3
def cS7 : ev_S := ev_nS cS6 100 8
def cS8 : ev_S := ev_pS cS7 1 2 4
def cS9 : ev_S := ev_nS cS8 2 2
def cS10 : ev_S := ev_nS cS9 100 1608
def cS11 : ev_S := ev_pS cS10 5 0 6
def cM1 : ev_M := (ev_up cM0.1 5 1 0, cM0.2)
def cS12 : ev_S := ev_pS cS11 1 3 5
def cM2 : ev_M := (ev_up cM1.1 1 4 0, cM1.2)
def cM3 : ev_M := (ev_up cM2.1 1 5 0, cM2.2)
def cM4 : ev_M := (ev_up cM3.1 1 6 0, cM3.2)
def cM5 : ev_M := (ev_up cM4.1 1 7 0, cM4.2)
def cM6 : ev_M := (ev_up cM5.1 1 8 4, cM5.2)
def cM7 : ev_M := (ev_up cM6.1 1 9 3, cM6.2)
def cM8 : ev_M := (ev_up cM7.1 1 10 0, cM7.2)
def cM9 : ev_M := (ev_up cM8.1 1 11 0, cM8.2)
def cM10 : ev_M := (ev_up cM9.1 1 12 0, cM9.2)
def cM11 : ev_M := (ev_up cM10.1 1 13 0, cM10.2)
def cM12 : ev_M := (ev_up cM11.1 1 14 0, cM11.2)
def cM13 : ev_M := (ev_up cM12.1 0 0 (Int32.ofNat 1), cM12.2)
def cS13 : ev_S := ev_nS cS12 1 15
def cS14 : ev_S := ev_nS cS13 100 48
def cS15 : ev_S := ev_pS cS14 7 0 8
def cS16 : ev_S := ev_nS cS15 100 8
def cS17 : ev_S := ev_pS cS16 7 1 9
def cS18 : ev_S := ev_nS cS17 100 8
def cS19 : ev_S := ev_pS cS18 7 2 10
def cS20 : ev_S := ev_nS cS19 2 2
def cS21 : ev_S := ev_nS cS20 100 1608
def cS22 : ev_S := ev_pS cS21 11 0 12
def cM14 : ev_M := (ev_up cM13.1 11 1 0, cM13.2)
def cS23 : ev_S := ev_pS cS22 7 3 11
def cM15 : ev_M := (ev_up cM14.1 7 4 0, cM14.2)
def cM16 : ev_M := (ev_up cM15.1 7 5 0, cM15.2)
def cM17 : ev_M := (ev_up cM16.1 7 6 0, cM16.2)
def cM18 : ev_M := (ev_up cM17.1 7 7 0, cM17.2)
def cM19 : ev_M := (ev_up cM18.1 7 8 4, cM18.2)
def cM20 : ev_M := (ev_up cM19.1 7 9 3, cM19.2)
def cM21 : ev_M := (ev_up cM20.1 7 10 0, cM20.2)
def cM22 : ev_M := (ev_up cM21.1 7 11 0, cM21.2)
def cM23 : ev_M := (ev_up cM22.1 7 12 0, cM22.2)
def cM24 : ev_M := (ev_up cM23.1 7 13 0, cM23.2)
def cM25 : ev_M := (ev_up cM24.1 7 14 0, cM24.2)
def cM26 : ev_M := (ev_up cM25.1 0 1 (Int32.ofNat 7), cM25.2)
def cS24 : ev_S := ev_nS cS23 10 8
def cS25 : ev_S := ev_nS cS24 100 1600
def cS26 : ev_S := ev_pS cS25 13 0 14
def cM27 : ev_M := (ev_up cM26.1 13 1 0, cM26.2)
def cM28 : ev_M := (ev_up cM27.1 13 2 0, cM27.2)
def cM29 : ev_M := (ev_up cM28.1 13 3 0, cM28.2)
def cM30 : ev_M := (ev_up cM29.1 13 4 (-1), cM29.2)
def cM31 : ev_M := (ev_up cM30.1 13 5 0, cM30.2)
def cM32 : ev_M := (ev_up cM31.1 13 6 0, cM31.2)
def cM33 : ev_M := (ev_up cM32.1 13 7 0, cM32.2)
def cS27 : ev_S := ev_pS cS26 0 2 13
def cS28 : ev_S := ev_nS cS27 9 5
def cM34 : ev_M := (ev_up cM33.1 15 2 0, cM33.2)
def cM35 : ev_M := (ev_up cM34.1 15 3 0, cM34.2)
def cM36 : ev_M := (ev_up cM35.1 15 4 0, cM35.2)
def cS29 : ev_S := ev_pS cS28 15 0 13
def cS30 : ev_S := ev_pS cS29 0 3 15
def cS31 : ev_S := ev_nS cS30 3 4
def cS32 : ev_S := ev_nS cS31 5 4
def cS33 : ev_S := ev_nS cS32 100 29
def cS34 : ev_S := ev_pS cS33 17 0 18
def cS35 : ev_S := ev_nS cS34 100 248
def cS36 : ev_S := ev_pS cS35 17 1 19
def cM37 : ev_M := (ev_up cM36.1 17 2 0, cM36.2)
def cS37 : ev_S := ev_nS cS36 100 64
def cS38 : ev_S := ev_pS cS37 17 3 20
def cS39 : ev_S := ev_pS cS38 16 0 17
def cS40 : ev_S := ev_nS cS39 100 8
def cS41 : ev_S := ev_pS cS40 16 1 21
def cM38 : ev_M := (ev_up cM37.1 16 3 0, cM37.2)
def cM39 : ev_M := (ev_up cM38.1 16 2 (Int32.ofNat 1), cM38.2)
def cS42 : ev_S := ev_pS cS41 0 4 16
def cS43 : ev_S := ev_nS cS42 7 7
def cS44 : ev_S := ev_nS cS43 2 2
def cS45 : ev_S := ev_nS cS44 100 1608
def cS46 : ev_S := ev_pS cS45 23 0 24
def cM40 : ev_M := (ev_up cM39.1 23 1 0, cM39.2)
def cS47 : ev_S := ev_pS cS46 22 3 23
def cS48 : ev_S := ev_nS cS47 8 6
def cS49 : ev_S := ev_nS cS48 100 8
def cS50 : ev_S := ev_pS cS49 25 0 26
def cS51 : ev_S := ev_nS cS50 100 8
def cS52 : ev_S := ev_pS cS51 25 1 27
def cM41 : ev_M := (ev_up cM40.1 25 2 0, cM40.2)
def cM42 : ev_M := (ev_up cM41.1 25 3 0, cM41.2)
def cM43 : ev_M := (ev_up cM42.1 25 4 0, cM42.2)
def cM44 : ev_M := (ev_up cM43.1 25 5 0, cM43.2)
def cS53 : ev_S := ev_pS cS52 22 4 25
def cS54 : ev_S := ev_nS cS53 100 8
def cS55 : ev_S := ev_pS cS54 22 5 28
def cM45 : ev_M := (ev_up cM44.1 22 6 (-1), cM44.2)
def cS56 : ev_S := ev_pS cS55 22 0 13
def cS57 : ev_S := ev_pS cS56 22 1 15
def cS58 : ev_S := ev_pS cS57 22 2 16
def cS59 : ev_S := ev_pS cS58 0 5 22
def cS60 : ev_S := ev_nS cS59 0 5
def cS61 : ev_S := ev_nS cS60 8 6
def cS62 : ev_S := ev_nS cS61 100 8
def cS63 : ev_S := ev_pS cS62 30 0 31
def cS64 : ev_S := ev_nS cS63 100 8
def cS65 : ev_S := ev_pS cS64 30 1 32
def cM46 : ev_M := (ev_up cM45.1 30 2 0, cM45.2)
def cM47 : ev_M := (ev_up cM46.1 30 3 0, cM46.2)
def cM48 : ev_M := (ev_up cM47.1 30 4 0, cM47.2)
def cM49 : ev_M := (ev_up cM48.1 30 5 0, cM48.2)
def cS66 : ev_S := ev_pS cS65 29 1 30
def cM50 : ev_M := (ev_up cM49.1 29 2 (-1), cM49.2)
def cM51 : ev_M := (ev_up cM50.1 29 3 (-1), cM50.2)
def cM52 : ev_M := (ev_up cM51.1 29 4 0, cM51.2)
def cS67 : ev_S := ev_pS cS66 29 0 16
def cS68 : ev_S := ev_pS cS67 0 6 29
def cS69 : ev_S := ev_nS cS68 4 10
def cS70 : ev_S := ev_nS cS69 8 6
def cS71 : ev_S := ev_nS cS70 100 8
def cS72 : ev_S := ev_pS cS71 34 0 35
def cS73 : ev_S := ev_nS cS72 100 8
def cS74 : ev_S := ev_pS cS73 34 1 36
def cM53 : ev_M := (ev_up cM52.1 34 2 0, cM52.2)
def cM54 : ev_M := (ev_up cM53.1 34 3 0, cM53.2)
def cM55 : ev_M := (ev_up cM54.1 34 4 0, cM54.2)
def cM56 : ev_M := (ev_up cM55.1 34 5 0, cM55.2)
def cS75 : ev_S := ev_pS cS74 33 1 34
def cS76 : ev_S := ev_nS cS75 100 48
def cS77 : ev_S := ev_pS cS76 33 2 37
def cS78 : ev_S := ev_nS cS77 100 2480
def cS79 : ev_S := ev_pS cS78 33 3 38
def cS80 : ev_S := ev_nS cS79 100 10
def cS81 : ev_S := ev_pS cS80 33 4 39
def cM57 : ev_M := (ev_up cM56.1 33 5 0, cM56.2)
def cM58 : ev_M := (ev_up cM57.1 33 6 0, cM57.2)
def cM59 : ev_M := (ev_up cM58.1 33 7 (-1), cM58.2)
def cM60 : ev_M := (ev_up cM59.1 33 8 (-1), cM59.2)
def cM61 : ev_M := (ev_up cM60.1 33 9 (-1), cM60.2)
def cS82 : ev_S := ev_pS cS81 33 0 16
def cS83 : ev_S := ev_pS cS82 0 7 33
def cS84 : ev_S := ev_nS cS83 6 4
def cS85 : ev_S := ev_nS cS84 104 20
def cS86 : ev_S := ev_pS cS85 40 0 41
def cS87 : ev_S := ev_nS cS86 100 3000
def cS88 : ev_S := ev_pS cS87 40 1 42
def cM62 : ev_M := (ev_up cM61.1 40 2 0, cM61.2)
def cM63 : ev_M := (ev_up cM62.1 40 3 0, cM62.2)
def cS89 : ev_S := ev_nS cS88 8 6
def cS90 : ev_S := ev_nS cS89 100 8
def cS91 : ev_S := ev_pS cS90 43 0 44
def cS92 : ev_S := ev_nS cS91 100 8
def cS93 : ev_S := ev_pS cS92 43 1 45
def cM64 : ev_M := (ev_up cM63.1 43 2 0, cM63.2)
def cM65 : ev_M := (ev_up cM64.1 43 3 0, cM64.2)
def cM66 : ev_M := (ev_up cM65.1 43 4 0, cM65.2)
def cM67 : ev_M := (ev_up cM66.1 43 5 0, cM66.2)
def cS94 : ev_S := ev_pS cS93 41 (0 : Int32).toNatClampNeg 43
def cS95 : ev_S := ev_nS cS94 8 6
def cS96 : ev_S := ev_nS cS95 100 8
def cS97 : ev_S := ev_pS cS96 46 0 47
def cS98 : ev_S := ev_nS cS97 100 8
def cS99 : ev_S := ev_pS cS98 46 1 48
def cM68 : ev_M := (ev_up cM67.1 46 2 0, cM67.2)
def cM69 : ev_M := (ev_up cM68.1 46 3 0, cM68.2)
def cM70 : ev_M := (ev_up cM69.1 46 4 0, cM69.2)
def cM71 : ev_M := (ev_up cM70.1 46 5 0, cM70.2)
def cS100 : ev_S := ev_pS cS99 41 (1 : Int32).toNatClampNeg 46
def cS101 : ev_S := ev_nS cS100 8 6
def cS102 : ev_S := ev_nS cS101 100 8
def cS103 : ev_S := ev_pS cS102 49 0 50
def cS104 : ev_S := ev_nS cS103 100 8
def cS105 : ev_S := ev_pS cS104 49 1 51
def cM72 : ev_M := (ev_up cM71.1 49 2 0, cM71.2)
def cM73 : ev_M := (ev_up cM72.1 49 3 0, cM72.2)
def cM74 : ev_M := (ev_up cM73.1 49 4 0, cM73.2)
def cM75 : ev_M := (ev_up cM74.1 49 5 0, cM74.2)
def cS106 : ev_S := ev_pS cS105 41 (2 : Int32).toNatClampNeg 49
def cS107 : ev_S := ev_nS cS106 8 6
def cS108 : ev_S := ev_nS cS107 100 8
def cS109 : ev_S := ev_pS cS108 52 0 53
def cS110 : ev_S := ev_nS cS109 100 8
def cS111 : ev_S := ev_pS cS110 52 1 54
def cM76 : ev_M := (ev_up cM75.1 52 2 0, cM75.2)
def cM77 : ev_M := (ev_up cM76.1 52 3 0, cM76.2)
def cM78 : ev_M := (ev_up cM77.1 52 4 0, cM77.2)
def cM79 : ev_M := (ev_up cM78.1 52 5 0, cM78.2)
def cS112 : ev_S := ev_pS cS111 41 (3 : Int32).toNatClampNeg 52
def cS113 : ev_S := ev_nS cS112 8 6
def cS114 : ev_S := ev_nS cS113 100 8
def cS115 : ev_S := ev_pS cS114 55 0 56
def cS116 : ev_S := ev_nS cS115 100 8
def cS117 : ev_S := ev_pS cS116 55 1 57
def cM80 : ev_M := (ev_up cM79.1 55 2 0, cM79.2)
def cM81 : ev_M := (ev_up cM80.1 55 3 0, cM80.2)
def cM82 : ev_M := (ev_up cM81.1 55 4 0, cM81.2)
def cM83 : ev_M := (ev_up cM82.1 55 5 0, cM82.2)
def cS118 : ev_S := ev_pS cS117 41 (4 : Int32).toNatClampNeg 55
def cS119 : ev_S := ev_nS cS118 8 6
def cS120 : ev_S := ev_nS cS119 100 8
def cS121 : ev_S := ev_pS cS120 58 0 59
def cS122 : ev_S := ev_nS cS121 100 8
def cS123 : ev_S := ev_pS cS122 58 1 60
def cM84 : ev_M := (ev_up cM83.1 58 2 0, cM83.2)
def cM85 : ev_M := (ev_up cM84.1 58 3 0, cM84.2)
def cM86 : ev_M := (ev_up cM85.1 58 4 0, cM85.2)
def cM87 : ev_M := (ev_up cM86.1 58 5 0, cM86.2)
def cS124 : ev_S := ev_pS cS123 41 (5 : Int32).toNatClampNeg 58
def cS125 : ev_S := ev_nS cS124 8 6
def cS126 : ev_S := ev_nS cS125 100 8
def cS127 : ev_S := ev_pS cS126 61 0 62
def cS128 : ev_S := ev_nS cS127 100 8
def cS129 : ev_S := ev_pS cS128 61 1 63
def cM88 : ev_M := (ev_up cM87.1 61 2 0, cM87.2)
def cM89 : ev_M := (ev_up cM88.1 61 3 0, cM88.2)
def cM90 : ev_M := (ev_up cM89.1 61 4 0, cM89.2)
def cM91 : ev_M := (ev_up cM90.1 61 5 0, cM90.2)
def cS130 : ev_S := ev_pS cS129 41 (6 : Int32).toNatClampNeg 61
def cS131 : ev_S := ev_nS cS130 8 6
def cS132 : ev_S := ev_nS cS131 100 8
def cS133 : ev_S := ev_pS cS132 64 0 65
def cS134 : ev_S := ev_nS cS133 100 8
def cS135 : ev_S := ev_pS cS134 64 1 66
def cM92 : ev_M := (ev_up cM91.1 64 2 0, cM91.2)
def cM93 : ev_M := (ev_up cM92.1 64 3 0, cM92.2)
def cM94 : ev_M := (ev_up cM93.1 64 4 0, cM93.2)
def cM95 : ev_M := (ev_up cM94.1 64 5 0, cM94.2)
def cS136 : ev_S := ev_pS cS135 41 (7 : Int32).toNatClampNeg 64
def cS137 : ev_S := ev_nS cS136 8 6
def cS138 : ev_S := ev_nS cS137 100 8
def cS139 : ev_S := ev_pS cS138 67 0 68
def cS140 : ev_S := ev_nS cS139 100 8
def cS141 : ev_S := ev_pS cS140 67 1 69
def cM96 : ev_M := (ev_up cM95.1 67 2 0, cM95.2)
def cM97 : ev_M := (ev_up cM96.1 67 3 0, cM96.2)
def cM98 : ev_M := (ev_up cM97.1 67 4 0, cM97.2)
def cM99 : ev_M := (ev_up cM98.1 67 5 0, cM98.2)
def cS142 : ev_S := ev_pS cS141 41 (8 : Int32).toNatClampNeg 67
def cS143 : ev_S := ev_nS cS142 8 6
def cS144 : ev_S := ev_nS cS143 100 8
def cS145 : ev_S := ev_pS cS144 70 0 71
def cS146 : ev_S := ev_nS cS145 100 8
def cS147 : ev_S := ev_pS cS146 70 1 72
def cM100 : ev_M := (ev_up cM99.1 70 2 0, cM99.2)
def cM101 : ev_M := (ev_up cM100.1 70 3 0, cM100.2)
def cM102 : ev_M := (ev_up cM101.1 70 4 0, cM101.2)
def cM103 : ev_M := (ev_up cM102.1 70 5 0, cM102.2)
def cS148 : ev_S := ev_pS cS147 41 (9 : Int32).toNatClampNeg 70
def cS149 : ev_S := ev_nS cS148 8 6
def cS150 : ev_S := ev_nS cS149 100 8
def cS151 : ev_S := ev_pS cS150 73 0 74
def cS152 : ev_S := ev_nS cS151 100 8
def cS153 : ev_S := ev_pS cS152 73 1 75
def cM104 : ev_M := (ev_up cM103.1 73 2 0, cM103.2)
def cM105 : ev_M := (ev_up cM104.1 73 3 0, cM104.2)
def cM106 : ev_M := (ev_up cM105.1 73 4 0, cM105.2)
def cM107 : ev_M := (ev_up cM106.1 73 5 0, cM106.2)
def cS154 : ev_S := ev_pS cS153 41 (10 : Int32).toNatClampNeg 73
def cS155 : ev_S := ev_nS cS154 8 6
def cS156 : ev_S := ev_nS cS155 100 8
def cS157 : ev_S := ev_pS cS156 76 0 77
def cS158 : ev_S := ev_nS cS157 100 8
def cS159 : ev_S := ev_pS cS158 76 1 78
def cM108 : ev_M := (ev_up cM107.1 76 2 0, cM107.2)
def cM109 : ev_M := (ev_up cM108.1 76 3 0, cM108.2)
def cM110 : ev_M := (ev_up cM109.1 76 4 0, cM109.2)
def cM111 : ev_M := (ev_up cM110.1 76 5 0, cM110.2)
def cS160 : ev_S := ev_pS cS159 41 (11 : Int32).toNatClampNeg 76
def cS161 : ev_S := ev_nS cS160 8 6
def cS162 : ev_S := ev_nS cS161 100 8
def cS163 : ev_S := ev_pS cS162 79 0 80
def cS164 : ev_S := ev_nS cS163 100 8
def cS165 : ev_S := ev_pS cS164 79 1 81
def cM112 : ev_M := (ev_up cM111.1 79 2 0, cM111.2)
def cM113 : ev_M := (ev_up cM112.1 79 3 0, cM112.2)
def cM114 : ev_M := (ev_up cM113.1 79 4 0, cM113.2)
def cM115 : ev_M := (ev_up cM114.1 79 5 0, cM114.2)
def cS166 : ev_S := ev_pS cS165 41 (12 : Int32).toNatClampNeg 79
def cS167 : ev_S := ev_nS cS166 8 6
def cS168 : ev_S := ev_nS cS167 100 8
def cS169 : ev_S := ev_pS cS168 82 0 83
def cS170 : ev_S := ev_nS cS169 100 8
def cS171 : ev_S := ev_pS cS170 82 1 84
def cM116 : ev_M := (ev_up cM115.1 82 2 0, cM115.2)
def cM117 : ev_M := (ev_up cM116.1 82 3 0, cM116.2)
def cM118 : ev_M := (ev_up cM117.1 82 4 0, cM117.2)
def cM119 : ev_M := (ev_up cM118.1 82 5 0, cM118.2)
def cS172 : ev_S := ev_pS cS171 41 (13 : Int32).toNatClampNeg 82
def cS173 : ev_S := ev_nS cS172 8 6
def cS174 : ev_S := ev_nS cS173 100 8
def cS175 : ev_S := ev_pS cS174 85 0 86
def cS176 : ev_S := ev_nS cS175 100 8
def cS177 : ev_S := ev_pS cS176 85 1 87
def cM120 : ev_M := (ev_up cM119.1 85 2 0, cM119.2)
def cM121 : ev_M := (ev_up cM120.1 85 3 0, cM120.2)
def cM122 : ev_M := (ev_up cM121.1 85 4 0, cM121.2)
def cM123 : ev_M := (ev_up cM122.1 85 5 0, cM122.2)
def cS178 : ev_S := ev_pS cS177 41 (14 : Int32).toNatClampNeg 85
def cS179 : ev_S := ev_nS cS178 8 6
def cS180 : ev_S := ev_nS cS179 100 8
def cS181 : ev_S := ev_pS cS180 88 0 89
def cS182 : ev_S := ev_nS cS181 100 8
def cS183 : ev_S := ev_pS cS182 88 1 90
def cM124 : ev_M := (ev_up cM123.1 88 2 0, cM123.2)
def cM125 : ev_M := (ev_up cM124.1 88 3 0, cM124.2)
def cM126 : ev_M := (ev_up cM125.1 88 4 0, cM125.2)
def cM127 : ev_M := (ev_up cM126.1 88 5 0, cM126.2)
def cS184 : ev_S := ev_pS cS183 41 (15 : Int32).toNatClampNeg 88
def cS185 : ev_S := ev_nS cS184 8 6
def cS186 : ev_S := ev_nS cS185 100 8
def cS187 : ev_S := ev_pS cS186 91 0 92
def cS188 : ev_S := ev_nS cS187 100 8
def cS189 : ev_S := ev_pS cS188 91 1 93
def cM128 : ev_M := (ev_up cM127.1 91 2 0, cM127.2)
def cM129 : ev_M := (ev_up cM128.1 91 3 0, cM128.2)
def cM130 : ev_M := (ev_up cM129.1 91 4 0, cM129.2)
def cM131 : ev_M := (ev_up cM130.1 91 5 0, cM130.2)
def cS190 : ev_S := ev_pS cS189 41 (16 : Int32).toNatClampNeg 91
def cS191 : ev_S := ev_nS cS190 8 6
def cS192 : ev_S := ev_nS cS191 100 8
def cS193 : ev_S := ev_pS cS192 94 0 95
def cS194 : ev_S := ev_nS cS193 100 8
def cS195 : ev_S := ev_pS cS194 94 1 96
def cM132 : ev_M := (ev_up cM131.1 94 2 0, cM131.2)
def cM133 : ev_M := (ev_up cM132.1 94 3 0, cM132.2)
def cM134 : ev_M := (ev_up cM133.1 94 4 0, cM133.2)
def cM135 : ev_M := (ev_up cM134.1 94 5 0, cM134.2)
def cS196 : ev_S := ev_pS cS195 41 (17 : Int32).toNatClampNeg 94
def cS197 : ev_S := ev_nS cS196 8 6
def cS198 : ev_S := ev_nS cS197 100 8
def cS199 : ev_S := ev_pS cS198 97 0 98
def cS200 : ev_S := ev_nS cS199 100 8
def cS201 : ev_S := ev_pS cS200 97 1 99
def cM136 : ev_M := (ev_up cM135.1 97 2 0, cM135.2)
def cM137 : ev_M := (ev_up cM136.1 97 3 0, cM136.2)
def cM138 : ev_M := (ev_up cM137.1 97 4 0, cM137.2)
def cM139 : ev_M := (ev_up cM138.1 97 5 0, cM138.2)
def cS202 : ev_S := ev_pS cS201 41 (18 : Int32).toNatClampNeg 97
def cS203 : ev_S := ev_nS cS202 8 6
def cS204 : ev_S := ev_nS cS203 100 8
def cS205 : ev_S := ev_pS cS204 100 0 101
def cS206 : ev_S := ev_nS cS205 100 8
def cS207 : ev_S := ev_pS cS206 100 1 102
def cM140 : ev_M := (ev_up cM139.1 100 2 0, cM139.2)
def cM141 : ev_M := (ev_up cM140.1 100 3 0, cM140.2)
def cM142 : ev_M := (ev_up cM141.1 100 4 0, cM141.2)
def cM143 : ev_M := (ev_up cM142.1 100 5 0, cM142.2)
def cS208 : ev_S := ev_pS cS207 41 (19 : Int32).toNatClampNeg 100
def cS209 : ev_S := ev_pS cS208 0 8 40
def cS210 : ev_S := ev_nS cS209 8 6
def cS211 : ev_S := ev_nS cS210 100 8
def cS212 : ev_S := ev_pS cS211 103 0 104
def cS213 : ev_S := ev_nS cS212 100 8
def cS214 : ev_S := ev_pS cS213 103 1 105
def cM144 : ev_M := (ev_up cM143.1 103 2 0, cM143.2)
def cM145 : ev_M := (ev_up cM144.1 103 3 0, cM144.2)
def cM146 : ev_M := (ev_up cM145.1 103 4 0, cM145.2)
def cM147 : ev_M := (ev_up cM146.1 103 5 0, cM146.2)
def cS215 : ev_S := ev_pS cS214 0 9 103
def cS216 : ev_S := ev_nS cS215 8 6
def cS217 : ev_S := ev_nS cS216 100 8
def cS218 : ev_S := ev_pS cS217 106 0 107
def cS219 : ev_S := ev_nS cS218 100 8
def cS220 : ev_S := ev_pS cS219 106 1 108
def cM148 : ev_M := (ev_up cM147.1 106 2 0, cM147.2)
def cM149 : ev_M := (ev_up cM148.1 106 3 0, cM148.2)
def cM150 : ev_M := (ev_up cM149.1 106 4 0, cM149.2)
def cM151 : ev_M := (ev_up cM150.1 106 5 0, cM150.2)
def cS221 : ev_S := ev_pS cS220 0 10 106
def cS222 : ev_S := ev_nS cS221 100 6
def cS223 : ev_S := ev_pS cS222 0 11 109
def cS224 : ev_S := ev_nS cS223 100 28
def cS225 : ev_S := ev_pS cS224 0 12 110
def cS226 : ev_S := ev_nS cS225 102 61
def cS227 : ev_S := ev_pS cS226 0 13 111
def cM152 : ev_M := (ev_up cM151.1 0 14 0, cM151.2)
def cM153 : ev_M := (ev_up cM152.1 0 15 0, cM152.2)
def cM154 : ev_M := (ev_up cM153.1 0 16 (-1), cM153.2)
def cM155 : ev_M := (cM154.1, ev_up cM154.2 0 17 1)
def cS228 : ev_S := ev_nS cS227 12 104
def cS229 : ev_S := ev_nS cS228 100 1600
def cS230 : ev_S := ev_pS cS229 112 0 113
def cM156 : ev_M := (ev_up cM155.1 112 8 (-1), cM155.2)
def cS231 : ev_S := ev_nS cS230 100 6
def cS232 : ev_S := ev_pS cS231 112 9 114
def cS233 : ev_S := ev_nS cS232 101 4
def cM157 : ev_M := (ev_up cM156.1 115 (0 : Int32).toNatClampNeg ((99 : Int32).toUInt32.toUInt16.toUInt32.toInt32), cM156.2)
def cM158 : ev_M := (ev_up cM157.1 115 (1 : Int32).toNatClampNeg ((97 : Int32).toUInt32.toUInt16.toUInt32.toInt32), cM157.2)
def cM159 : ev_M := (ev_up cM158.1 115 (2 : Int32).toNatClampNeg ((108 : Int32).toUInt32.toUInt16.toUInt32.toInt32), cM158.2)
def cM160 : ev_M := (ev_up cM159.1 115 (3 : Int32).toNatClampNeg ((108 : Int32).toUInt32.toUInt16.toUInt32.toInt32), cM159.2)
def cS234 : ev_S := ev_pS cS233 112 10 115
def cS235 : ev_S := ev_nS cS234 101 5
def cM161 : ev_M := (ev_up cM160.1 116 (0 : Int32).toNatClampNeg ((116 : Int32).toUInt32.toUInt16.toUInt32.toInt32), cM160.2)
def cM162 : ev_M := (ev_up cM161.1 116 (1 : Int32).toNatClampNeg ((111 : Int32).toUInt32.toUInt16.toUInt32.toInt32), cM161.2)
def cM163 : ev_M := (ev_up cM162.1 116 (2 : Int32).toNatClampNeg ((119 : Int32).toUInt32.toUInt16.toUInt32.toInt32), cM162.2)
def cM164 : ev_M := (ev_up cM163.1 116 (3 : Int32).toNatClampNeg ((101 : Int32).toUInt32.toUInt16.toUInt32.toInt32), cM163.2)
def cM165 : ev_M := (ev_up cM164.1 116 (4 : Int32).toNatClampNeg ((114 : Int32).toUInt32.toUInt16.toUInt32.toInt32), cM164.2)
def cS236 : ev_S := ev_pS cS235 112 11 116
def cS237 : ev_S := ev_nS cS236 101 4
def cM166 : ev_M := (ev_up cM165.1 117 (0 : Int32).toNatClampNeg ((109 : Int32).toUInt32.toUInt16.toUInt32.toInt32), cM165.2)
def cM167 : ev_M := (ev_up cM166.1 117 (1 : Int32).toNatClampNeg ((111 : Int32).toUInt32.toUInt16.toUInt32.toInt32), cM166.2)
def cM168 : ev_M := (ev_up cM167.1 117 (2 : Int32).toNatClampNeg ((111 : Int32).toUInt32.toUInt16.toUInt32.toInt32), cM167.2)
def cM169 : ev_M := (ev_up cM168.1 117 (3 : Int32).toNatClampNeg ((100 : Int32).toUInt32.toUInt16.toUInt32.toInt32), cM168.2)
def cS238 : ev_S := ev_pS cS237 112 12 117
def cS239 : ev_S := ev_nS cS238 101 5
def cM170 : ev_M := (ev_up cM169.1 118 (0 : Int32).toNatClampNeg ((99 : Int32).toUInt32.toUInt16.toUInt32.toInt32), cM169.2)
def cM171 : ev_M := (ev_up cM170.1 118 (1 : Int32).toNatClampNeg ((104 : Int32).toUInt32.toUInt16.toUInt32.toInt32), cM170.2)
def cM172 : ev_M := (ev_up cM171.1 118 (2 : Int32).toNatClampNeg ((101 : Int32).toUInt32.toUInt16.toUInt32.toInt32), cM171.2)
def cM173 : ev_M := (ev_up cM172.1 118 (3 : Int32).toNatClampNeg ((101 : Int32).toUInt32.toUInt16.toUInt32.toInt32), cM172.2)
def cM174 : ev_M := (ev_up cM173.1 118 (4 : Int32).toNatClampNeg ((114 : Int32).toUInt32.toUInt16.toUInt32.toInt32), cM173.2)
def cS240 : ev_S := ev_pS cS239 112 13 118
def cS241 : ev_S := ev_nS cS240 101 3
def cM175 : ev_M := (ev_up cM174.1 119 (0 : Int32).toNatClampNeg ((121 : Int32).toUInt32.toUInt16.toUInt32.toInt32), cM174.2)
def cM176 : ev_M := (ev_up cM175.1 119 (1 : Int32).toNatClampNeg ((101 : Int32).toUInt32.toUInt16.toUInt32.toInt32), cM175.2)
def cM177 : ev_M := (ev_up cM176.1 119 (2 : Int32).toNatClampNeg ((115 : Int32).toUInt32.toUInt16.toUInt32.toInt32), cM176.2)
def cS242 : ev_S := ev_pS cS241 112 14 119
def cS243 : ev_S := ev_nS cS242 101 4
def cM178 : ev_M := (ev_up cM177.1 120 (0 : Int32).toNatClampNeg ((115 : Int32).toUInt32.toUInt16.toUInt32.toInt32), cM177.2)
def cM179 : ev_M := (ev_up cM178.1 120 (1 : Int32).toNatClampNeg ((97 : Int32).toUInt32.toUInt16.toUInt32.toInt32), cM178.2)
def cM180 : ev_M := (ev_up cM179.1 120 (2 : Int32).toNatClampNeg ((121 : Int32).toUInt32.toUInt16.toUInt32.toInt32), cM179.2)
def cM181 : ev_M := (ev_up cM180.1 120 (3 : Int32).toNatClampNeg ((115 : Int32).toUInt32.toUInt16.toUInt32.toInt32), cM180.2)
def cS244 : ev_S := ev_pS cS243 112 15 120
def cS245 : ev_S := ev_nS cS244 101 5
def cM182 : ev_M := (ev_up cM181.1 121 (0 : Int32).toNatClampNeg ((102 : Int32).toUInt32.toUInt16.toUInt32.toInt32), cM181.2)
def cM183 : ev_M := (ev_up cM182.1 121 (1 : Int32).toNatClampNeg ((101 : Int32).toUInt32.toUInt16.toUInt32.toInt32), cM182.2)
def cM184 : ev_M := (ev_up cM183.1 121 (2 : Int32).toNatClampNeg ((101 : Int32).toUInt32.toUInt16.toUInt32.toInt32), cM183.2)
def cM185 : ev_M := (ev_up cM184.1 121 (3 : Int32).toNatClampNeg ((108 : Int32).toUInt32.toUInt16.toUInt32.toInt32), cM184.2)
def cM186 : ev_M := (ev_up cM185.1 121 (4 : Int32).toNatClampNeg ((115 : Int32).toUInt32.toUInt16.toUInt32.toInt32), cM185.2)
def cS246 : ev_S := ev_pS cS245 112 16 121
def cS247 : ev_S := ev_nS cS246 101 4
def cM187 : ev_M := (ev_up cM186.1 122 (0 : Int32).toNatClampNeg ((119 : Int32).toUInt32.toUInt16.toUInt32.toInt32), cM186.2)
def cM188 : ev_M := (ev_up cM187.1 122 (1 : Int32).toNatClampNeg ((101 : Int32).toUInt32.toUInt16.toUInt32.toInt32), cM187.2)
def cM189 : ev_M := (ev_up cM188.1 122 (2 : Int32).toNatClampNeg ((108 : Int32).toUInt32.toUInt16.toUInt32.toInt32), cM188.2)
def cM190 : ev_M := (ev_up cM189.1 122 (3 : Int32).toNatClampNeg ((108 : Int32).toUInt32.toUInt16.toUInt32.toInt32), cM189.2)
def cS248 : ev_S := ev_pS cS247 112 17 122
def cS249 : ev_S := ev_nS cS248 101 5
def cM191 : ev_M := (ev_up cM190.1 123 (0 : Int32).toNatClampNeg ((102 : Int32).toUInt32.toUInt16.toUInt32.toInt32), cM190.2)
def cM192 : ev_M := (ev_up cM191.1 123 (1 : Int32).toNatClampNeg ((105 : Int32).toUInt32.toUInt16.toUInt32.toInt32), cM191.2)
def cM193 : ev_M := (ev_up cM192.1 123 (2 : Int32).toNatClampNeg ((114 : Int32).toUInt32.toUInt16.toUInt32.toInt32), cM192.2)
def cM194 : ev_M := (ev_up cM193.1 123 (3 : Int32).toNatClampNeg ((101 : Int32).toUInt32.toUInt16.toUInt32.toInt32), cM193.2)
def cM195 : ev_M := (ev_up cM194.1 123 (4 : Int32).toNatClampNeg ((115 : Int32).toUInt32.toUInt16.toUInt32.toInt32), cM194.2)
def cS250 : ev_S := ev_pS cS249 112 18 123
def cS251 : ev_S := ev_nS cS250 101 4
def cM196 : ev_M := (ev_up cM195.1 124 (0 : Int32).toNatClampNeg ((99 : Int32).toUInt32.toUInt16.toUInt32.toInt32), cM195.2)
def cM197 : ev_M := (ev_up cM196.1 124 (1 : Int32).toNatClampNeg ((111 : Int32).toUInt32.toUInt16.toUInt32.toInt32), cM196.2)
def cM198 : ev_M := (ev_up cM197.1 124 (2 : Int32).toNatClampNeg ((108 : Int32).toUInt32.toUInt16.toUInt32.toInt32), cM197.2)
def cM199 : ev_M := (ev_up cM198.1 124 (3 : Int32).toNatClampNeg ((100 : Int32).toUInt32.toUInt16.toUInt32.toInt32), cM198.2)
def cS252 : ev_S := ev_pS cS251 112 19 124
def cS253 : ev_S := ev_nS cS252 101 5
def cM200 : ev_M := (ev_up cM199.1 125 (0 : Int32).toNatClampNeg ((104 : Int32).toUInt32.toUInt16.toUInt32.toInt32), cM199.2)
def cM201 : ev_M := (ev_up cM200.1 125 (1 : Int32).toNatClampNeg ((101 : Int32).toUInt32.toUInt16.toUInt32.toInt32), cM200.2)
def cM202 : ev_M := (ev_up cM201.1 125 (2 : Int32).toNatClampNeg ((97 : Int32).toUInt32.toUInt16.toUInt32.toInt32), cM201.2)
def cM203 : ev_M := (ev_up cM202.1 125 (3 : Int32).toNatClampNeg ((114 : Int32).toUInt32.toUInt16.toUInt32.toInt32), cM202.2)
def cM204 : ev_M := (ev_up cM203.1 125 (4 : Int32).toNatClampNeg ((100 : Int32).toUInt32.toUInt16.toUInt32.toInt32), cM203.2)
def cS254 : ev_S := ev_pS cS253 112 20 125
def cS255 : ev_S := ev_nS cS254 101 5
def cM205 : ev_M := (ev_up cM204.1 126 (0 : Int32).toNatClampNeg ((114 : Int32).toUInt32.toUInt16.toUInt32.toInt32), cM204.2)
def cM206 : ev_M := (ev_up cM205.1 126 (1 : Int32).toNatClampNeg ((111 : Int32).toUInt32.toUInt16.toUInt32.toInt32), cM205.2)
def cM207 : ev_M := (ev_up cM206.1 126 (2 : Int32).toNatClampNeg ((117 : Int32).toUInt32.toUInt16.toUInt32.toInt32), cM206.2)
def cM208 : ev_M := (ev_up cM207.1 126 (3 : Int32).toNatClampNeg ((110 : Int32).toUInt32.toUInt16.toUInt32.toInt32), cM207.2)
def cM209 : ev_M := (ev_up cM208.1 126 (4 : Int32).toNatClampNeg ((100 : Int32).toUInt32.toUInt16.toUInt32.toInt32), cM208.2)
def cS256 : ev_S := ev_pS cS255 112 21 126
def cS257 : ev_S := ev_nS cS256 101 5
def cM210 : ev_M := (ev_up cM209.1 127 (0 : Int32).toNatClampNeg ((112 : Int32).toUInt32.toUInt16.toUInt32.toInt32), cM209.2)
def cM211 : ev_M := (ev_up cM210.1 127 (1 : Int32).toNatClampNeg ((108 : Int32).toUInt32.toUInt16.toUInt32.toInt32), cM210.2)
def cM212 : ev_M := (ev_up cM211.1 127 (2 : Int32).toNatClampNeg ((97 : Int32).toUInt32.toUInt16.toUInt32.toInt32), cM211.2)
def cM213 : ev_M := (ev_up cM212.1 127 (3 : Int32).toNatClampNeg ((99 : Int32).toUInt32.toUInt16.toUInt32.toInt32), cM212.2)
def cM214 : ev_M := (ev_up cM213.1 127 (4 : Int32).toNatClampNeg ((101 : Int32).toUInt32.toUInt16.toUInt32.toInt32), cM213.2)
def cS258 : ev_S := ev_pS cS257 112 22 127
def cS259 : ev_S := ev_nS cS258 101 4
def cM215 : ev_M := (ev_up cM214.1 128 (0 : Int32).toNatClampNeg ((115 : Int32).toUInt32.toUInt16.toUInt32.toInt32), cM214.2)
def cM216 : ev_M := (ev_up cM215.1 128 (1 : Int32).toNatClampNeg ((105 : Int32).toUInt32.toUInt16.toUInt32.toInt32), cM215.2)
def cM217 : ev_M := (ev_up cM216.1 128 (2 : Int32).toNatClampNeg ((103 : Int32).toUInt32.toUInt16.toUInt32.toInt32), cM216.2)
def cM218 : ev_M := (ev_up cM217.1 128 (3 : Int32).toNatClampNeg ((104 : Int32).toUInt32.toUInt16.toUInt32.toInt32), cM217.2)
def cS260 : ev_S := ev_pS cS259 112 23 128
def cS261 : ev_S := ev_nS cS260 101 4
def cM219 : ev_M := (ev_up cM218.1 129 (0 : Int32).toNatClampNeg ((116 : Int32).toUInt32.toUInt16.toUInt32.toInt32), cM218.2)
def cM220 : ev_M := (ev_up cM219.1 129 (1 : Int32).toNatClampNeg ((111 : Int32).toUInt32.toUInt16.toUInt32.toInt32), cM219.2)
def cM221 : ev_M := (ev_up cM220.1 129 (2 : Int32).toNatClampNeg ((110 : Int32).toUInt32.toUInt16.toUInt32.toInt32), cM220.2)
def cM222 : ev_M := (ev_up cM221.1 129 (3 : Int32).toNatClampNeg ((101 : Int32).toUInt32.toUInt16.toUInt32.toInt32), cM221.2)
def cS262 : ev_S := ev_pS cS261 112 24 129
def cS263 : ev_S := ev_nS cS262 101 6
def cM223 : ev_M := (ev_up cM222.1 130 (0 : Int32).toNatClampNeg ((110 : Int32).toUInt32.toUInt16.toUInt32.toInt32), cM222.2)
def cM224 : ev_M := (ev_up cM223.1 130 (1 : Int32).toNatClampNeg ((117 : Int32).toUInt32.toUInt16.toUInt32.toInt32), cM223.2)
def cM225 : ev_M := (ev_up cM224.1 130 (2 : Int32).toNatClampNeg ((109 : Int32).toUInt32.toUInt16.toUInt32.toInt32), cM224.2)
def cM226 : ev_M := (ev_up cM225.1 130 (3 : Int32).toNatClampNeg ((98 : Int32).toUInt32.toUInt16.toUInt32.toInt32), cM225.2)
def cM227 : ev_M := (ev_up cM226.1 130 (4 : Int32).toNatClampNeg ((101 : Int32).toUInt32.toUInt16.toUInt32.toInt32), cM226.2)
def cM228 : ev_M := (ev_up cM227.1 130 (5 : Int32).toNatClampNeg ((114 : Int32).toUInt32.toUInt16.toUInt32.toInt32), cM227.2)
def cS264 : ev_S := ev_pS cS263 112 25 130
def cS265 : ev_S := ev_nS cS264 101 4
def cM229 : ev_M := (ev_up cM228.1 131 (0 : Int32).toNatClampNeg ((103 : Int32).toUInt32.toUInt16.toUInt32.toInt32), cM228.2)
def cM230 : ev_M := (ev_up cM229.1 131 (1 : Int32).toNatClampNeg ((108 : Int32).toUInt32.toUInt16.toUInt32.toInt32), cM229.2)
def cM231 : ev_M := (ev_up cM230.1 131 (2 : Int32).toNatClampNeg ((97 : Int32).toUInt32.toUInt16.toUInt32.toInt32), cM230.2)
def cM232 : ev_M := (ev_up cM231.1 131 (3 : Int32).toNatClampNeg ((100 : Int32).toUInt32.toUInt16.toUInt32.toInt32), cM231.2)
def cS266 : ev_S := ev_pS cS265 112 26 131
def cS267 : ev_S := ev_nS cS266 101 2
def cM233 : ev_M := (ev_up cM232.1 132 (0 : Int32).toNatClampNeg ((111 : Int32).toUInt32.toUInt16.toUInt32.toInt32), cM232.2)
def cM234 : ev_M := (ev_up cM233.1 132 (1 : Int32).toNatClampNeg ((114 : Int32).toUInt32.toUInt16.toUInt32.toInt32), cM233.2)
def cS268 : ev_S := ev_pS cS267 112 27 132
def cS269 : ev_S := ev_nS cS268 101 3
def cM235 : ev_M := (ev_up cM234.1 133 (0 : Int32).toNatClampNeg ((97 : Int32).toUInt32.toUInt16.toUInt32.toInt32), cM234.2)
def cM236 : ev_M := (ev_up cM235.1 133 (1 : Int32).toNatClampNeg ((110 : Int32).toUInt32.toUInt16.toUInt32.toInt32), cM235.2)
def cM237 : ev_M := (ev_up cM236.1 133 (2 : Int32).toNatClampNeg ((100 : Int32).toUInt32.toUInt16.toUInt32.toInt32), cM236.2)
def cS270 : ev_S := ev_pS cS269 112 28 133
def cS271 : ev_S := ev_nS cS270 101 3
def cM238 : ev_M := (ev_up cM237.1 134 (0 : Int32).toNatClampNeg ((110 : Int32).toUInt32.toUInt16.toUInt32.toInt32), cM237.2)
def cM239 : ev_M := (ev_up cM238.1 134 (1 : Int32).toNatClampNeg ((111 : Int32).toUInt32.toUInt16.toUInt32.toInt32), cM238.2)
def cM240 : ev_M := (ev_up cM239.1 134 (2 : Int32).toNatClampNeg ((116 : Int32).toUInt32.toUInt16.toUInt32.toInt32), cM239.2)
def cS272 : ev_S := ev_pS cS271 112 29 134
def cS273 : ev_S := ev_nS cS272 101 3
def cM241 : ev_M := (ev_up cM240.1 135 (0 : Int32).toNatClampNeg ((97 : Int32).toUInt32.toUInt16.toUInt32.toInt32), cM240.2)
def cM242 : ev_M := (ev_up cM241.1 135 (1 : Int32).toNatClampNeg ((108 : Int32).toUInt32.toUInt16.toUInt32.toInt32), cM241.2)
def cM243 : ev_M := (ev_up cM242.1 135 (2 : Int32).toNatClampNeg ((108 : Int32).toUInt32.toUInt16.toUInt32.toInt32), cM242.2)
def cS274 : ev_S := ev_pS cS273 112 30 135
def cS275 : ev_S := ev_nS cS274 101 3
def cM244 : ev_M := (ev_up cM243.1 136 (0 : Int32).toNatClampNeg ((109 : Int32).toUInt32.toUInt16.toUInt32.toInt32), cM243.2)
def cM245 : ev_M := (ev_up cM244.1 136 (1 : Int32).toNatClampNeg ((105 : Int32).toUInt32.toUInt16.toUInt32.toInt32), cM244.2)
def cM246 : ev_M := (ev_up cM245.1 136 (2 : Int32).toNatClampNeg ((110 : Int32).toUInt32.toUInt16.toUInt32.toInt32), cM245.2)
def cS276 : ev_S := ev_pS cS275 112 31 136
def cS277 : ev_S := ev_nS cS276 101 3
def cM247 : ev_M := (ev_up cM246.1 137 (0 : Int32).toNatClampNeg ((109 : Int32).toUInt32.toUInt16.toUInt32.toInt32), cM246.2)
def cM248 : ev_M := (ev_up cM247.1 137 (1 : Int32).toNatClampNeg ((97 : Int32).toUInt32.toUInt16.toUInt32.toInt32), cM247.2)
def cM249 : ev_M := (ev_up cM248.1 137 (2 : Int32).toNatClampNeg ((120 : Int32).toUInt32.toUInt16.toUInt32.toInt32), cM248.2)
def cS278 : ev_S := ev_pS cS277 112 32 137
def cS279 : ev_S := ev_nS cS278 102 16
def cS280 : ev_S := ev_pS cS279 112 37 138
def cS281 : ev_S := ev_nS cS280 100 24
def cS282 : ev_S := ev_pS cS281 112 38 139
def cS283 : ev_S := ev_nS cS282 100 6
def cM250 : ev_M := (ev_up cM249.1 140 (0 : Int32).toNatClampNeg 4, cM249.2)
def cM251 : ev_M := (ev_up cM250.1 140 (1 : Int32).toNatClampNeg 3, cM250.2)
def cM252 : ev_M := (ev_up cM251.1 140 (2 : Int32).toNatClampNeg 0, cM251.2)
def cM253 : ev_M := (ev_up cM252.1 140 (3 : Int32).toNatClampNeg 4, cM252.2)
def cM254 : ev_M := (ev_up cM253.1 140 (4 : Int32).toNatClampNeg 3, cM253.2)
def cM255 : ev_M := (ev_up cM254.1 140 (5 : Int32).toNatClampNeg 0, cM254.2)
def cS284 : ev_S := ev_pS cS283 112 39 140
def cS285 : ev_S := ev_nS cS284 100 4
def cM256 : ev_M := (ev_up cM255.1 141 (0 : Int32).toNatClampNeg (-1), cM255.2)
def cM257 : ev_M := (ev_up cM256.1 141 (1 : Int32).toNatClampNeg (-1), cM256.2)
def cM258 : ev_M := (ev_up cM257.1 141 (2 : Int32).toNatClampNeg (-1), cM257.2)
def cM259 : ev_M := (ev_up cM258.1 141 (3 : Int32).toNatClampNeg (-1), cM258.2)
def cS286 : ev_S := ev_pS cS285 112 40 141
def cS287 : ev_S := ev_nS cS286 100 4
def cS288 : ev_S := ev_pS cS287 112 41 142
def cS289 : ev_S := ev_nS cS288 100 3200
def cS290 : ev_S := ev_pS cS289 112 42 143
def cS291 : ev_S := ev_nS cS290 100 147
def cS292 : ev_S := ev_pS cS291 112 47 144
def cS293 : ev_S := ev_nS cS292 100 26
def cS294 : ev_S := ev_pS cS293 112 48 145
def cS295 : ev_S := ev_nS cS294 100 8
def cS296 : ev_S := ev_pS cS295 112 52 146
def cS297 : ev_S := ev_nS cS296 100 549
def cS298 : ev_S := ev_pS cS297 112 57 147
def cS299 : ev_S := ev_nS cS298 100 48
def cS300 : ev_S := ev_pS cS299 112 59 148
def cS301 : ev_S := ev_nS cS300 100 2480
def cS302 : ev_S := ev_pS cS301 112 60 149
def cS303 : ev_S := ev_nS cS302 103 10
def cS304 : ev_S := ev_pS cS303 112 61 150
def cS305 : ev_S := ev_nS cS304 100 2940
def cS306 : ev_S := ev_pS cS305 112 63 151
def cM260 : ev_M := (cM259.1, ev_up cM259.2 112 66 1)
def cS307 : ev_S := ev_nS cS306 100 248
def cS308 : ev_S := ev_pS cS307 112 67 152
def cS309 : ev_S := ev_nS cS308 100 8
def cS310 : ev_S := ev_pS cS309 112 68 153
def cS311 : ev_S := ev_nS cS310 101 5
def cM261 : ev_M := (ev_up cM260.1 154 (0 : Int32).toNatClampNeg ((102 : Int32).toUInt32.toUInt16.toUInt32.toInt32), cM260.2)
def cM262 : ev_M := (ev_up cM261.1 154 (1 : Int32).toNatClampNeg ((105 : Int32).toUInt32.toUInt16.toUInt32.toInt32), cM261.2)
def cM263 : ev_M := (ev_up cM262.1 154 (2 : Int32).toNatClampNeg ((114 : Int32).toUInt32.toUInt16.toUInt32.toInt32), cM262.2)
def cM264 : ev_M := (ev_up cM263.1 154 (3 : Int32).toNatClampNeg ((115 : Int32).toUInt32.toUInt16.toUInt32.toInt32), cM263.2)
def cM265 : ev_M := (ev_up cM264.1 154 (4 : Int32).toNatClampNeg ((116 : Int32).toUInt32.toUInt16.toUInt32.toInt32), cM264.2)
def cS312 : ev_S := ev_pS cS311 112 69 154
def cS313 : ev_S := ev_nS cS312 101 4
def cM266 : ev_M := (ev_up cM265.1 155 (0 : Int32).toNatClampNeg ((108 : Int32).toUInt32.toUInt16.toUInt32.toInt32), cM265.2)
def cM267 : ev_M := (ev_up cM266.1 155 (1 : Int32).toNatClampNeg ((97 : Int32).toUInt32.toUInt16.toUInt32.toInt32), cM266.2)
def cM268 : ev_M := (ev_up cM267.1 155 (2 : Int32).toNatClampNeg ((115 : Int32).toUInt32.toUInt16.toUInt32.toInt32), cM267.2)
def cM269 : ev_M := (ev_up cM268.1 155 (3 : Int32).toNatClampNeg ((116 : Int32).toUInt32.toUInt16.toUInt32.toInt32), cM268.2)
def cS314 : ev_S := ev_pS cS313 112 70 155
def cS315 : ev_S := ev_nS cS314 101 5
def cM270 : ev_M := (ev_up cM269.1 156 (0 : Int32).toNatClampNeg ((111 : Int32).toUInt32.toUInt16.toUInt32.toInt32), cM269.2)
def cM271 : ev_M := (ev_up cM270.1 156 (1 : Int32).toNatClampNeg ((102 : Int32).toUInt32.toUInt16.toUInt32.toInt32), cM270.2)
def cM272 : ev_M := (ev_up cM271.1 156 (2 : Int32).toNatClampNeg ((116 : Int32).toUInt32.toUInt16.toUInt32.toInt32), cM271.2)
def cM273 : ev_M := (ev_up cM272.1 156 (3 : Int32).toNatClampNeg ((101 : Int32).toUInt32.toUInt16.toUInt32.toInt32), cM272.2)
def cM274 : ev_M := (ev_up cM273.1 156 (4 : Int32).toNatClampNeg ((110 : Int32).toUInt32.toUInt16.toUInt32.toInt32), cM273.2)
def cS316 : ev_S := ev_pS cS315 112 71 156
def cS317 : ev_S := ev_nS cS316 101 5
def cM275 : ev_M := (ev_up cM274.1 157 (0 : Int32).toNatClampNeg ((116 : Int32).toUInt32.toUInt16.toUInt32.toInt32), cM274.2)
def cM276 : ev_M := (ev_up cM275.1 157 (1 : Int32).toNatClampNeg ((111 : Int32).toUInt32.toUInt16.toUInt32.toInt32), cM275.2)
def cM277 : ev_M := (ev_up cM276.1 157 (2 : Int32).toNatClampNeg ((116 : Int32).toUInt32.toUInt16.toUInt32.toInt32), cM276.2)
def cM278 : ev_M := (ev_up cM277.1 157 (3 : Int32).toNatClampNeg ((97 : Int32).toUInt32.toUInt16.toUInt32.toInt32), cM277.2)
def cM279 : ev_M := (ev_up cM278.1 157 (4 : Int32).toNatClampNeg ((108 : Int32).toUInt32.toUInt16.toUInt32.toInt32), cM278.2)
def cS318 : ev_S := ev_pS cS317 112 72 157
def cS319 : ev_S := ev_nS cS318 101 4
def cM280 : ev_M := (ev_up cM279.1 158 (0 : Int32).toNatClampNeg ((109 : Int32).toUInt32.toUInt16.toUInt32.toInt32), cM279.2)
def cM281 : ev_M := (ev_up cM280.1 158 (1 : Int32).toNatClampNeg ((111 : Int32).toUInt32.toUInt16.toUInt32.toInt32), cM280.2)
def cM282 : ev_M := (ev_up cM281.1 158 (2 : Int32).toNatClampNeg ((115 : Int32).toUInt32.toUInt16.toUInt32.toInt32), cM281.2)
def cM283 : ev_M := (ev_up cM282.1 158 (3 : Int32).toNatClampNeg ((116 : Int32).toUInt32.toUInt16.toUInt32.toInt32), cM282.2)
def cS320 : ev_S := ev_pS cS319 112 73 158
def cS321 : ev_S := ev_nS cS320 101 5
def cM284 : ev_M := (ev_up cM283.1 159 (0 : Int32).toNatClampNeg ((108 : Int32).toUInt32.toUInt16.toUInt32.toInt32), cM283.2)
def cM285 : ev_M := (ev_up cM284.1 159 (1 : Int32).toNatClampNeg ((101 : Int32).toUInt32.toUInt16.toUInt32.toInt32), cM284.2)
def cM286 : ev_M := (ev_up cM285.1 159 (2 : Int32).toNatClampNeg ((97 : Int32).toUInt32.toUInt16.toUInt32.toInt32), cM285.2)
def cM287 : ev_M := (ev_up cM286.1 159 (3 : Int32).toNatClampNeg ((115 : Int32).toUInt32.toUInt16.toUInt32.toInt32), cM286.2)
def cM288 : ev_M := (ev_up cM287.1 159 (4 : Int32).toNatClampNeg ((116 : Int32).toUInt32.toUInt16.toUInt32.toInt32), cM287.2)
def cS322 : ev_S := ev_pS cS321 112 74 159
def cS323 : ev_S := ev_nS cS322 101 3
def cM289 : ev_M := (ev_up cM288.1 160 (0 : Int32).toNatClampNeg ((110 : Int32).toUInt32.toUInt16.toUInt32.toInt32), cM288.2)
def cM290 : ev_M := (ev_up cM289.1 160 (1 : Int32).toNatClampNeg ((111 : Int32).toUInt32.toUInt16.toUInt32.toInt32), cM289.2)
def cM291 : ev_M := (ev_up cM290.1 160 (2 : Int32).toNatClampNeg ((116 : Int32).toUInt32.toUInt16.toUInt32.toInt32), cM290.2)
def cS324 : ev_S := ev_pS cS323 112 75 160
def cS325 : ev_S := ev_nS cS324 101 3
def cM292 : ev_M := (ev_up cM291.1 161 (0 : Int32).toNatClampNeg ((97 : Int32).toUInt32.toUInt16.toUInt32.toInt32), cM291.2)
def cM293 : ev_M := (ev_up cM292.1 161 (1 : Int32).toNatClampNeg ((110 : Int32).toUInt32.toUInt16.toUInt32.toInt32), cM292.2)
def cM294 : ev_M := (ev_up cM293.1 161 (2 : Int32).toNatClampNeg ((100 : Int32).toUInt32.toUInt16.toUInt32.toInt32), cM293.2)
def cS326 : ev_S := ev_pS cS325 112 76 161
def cS327 : ev_S := ev_nS cS326 101 2
def cM295 : ev_M := (ev_up cM294.1 162 (0 : Int32).toNatClampNeg ((111 : Int32).toUInt32.toUInt16.toUInt32.toInt32), cM294.2)
def cM296 : ev_M := (ev_up cM295.1 162 (1 : Int32).toNatClampNeg ((114 : Int32).toUInt32.toUInt16.toUInt32.toInt32), cM295.2)
def cS328 : ev_S := ev_pS cS327 112 77 162
def cS329 : ev_S := ev_nS cS328 101 3
def cM297 : ev_M := (ev_up cM296.1 163 (0 : Int32).toNatClampNeg ((97 : Int32).toUInt32.toUInt16.toUInt32.toInt32), cM296.2)
def cM298 : ev_M := (ev_up cM297.1 163 (1 : Int32).toNatClampNeg ((108 : Int32).toUInt32.toUInt16.toUInt32.toInt32), cM297.2)
def cM299 : ev_M := (ev_up cM298.1 163 (2 : Int32).toNatClampNeg ((108 : Int32).toUInt32.toUInt16.toUInt32.toInt32), cM298.2)
def cS330 : ev_S := ev_pS cS329 112 78 163
def cS331 : ev_S := ev_nS cS330 101 3
def cM300 : ev_M := (ev_up cM299.1 164 (0 : Int32).toNatClampNeg ((109 : Int32).toUInt32.toUInt16.toUInt32.toInt32), cM299.2)
def cM301 : ev_M := (ev_up cM300.1 164 (1 : Int32).toNatClampNeg ((105 : Int32).toUInt32.toUInt16.toUInt32.toInt32), cM300.2)
def cM302 : ev_M := (ev_up cM301.1 164 (2 : Int32).toNatClampNeg ((110 : Int32).toUInt32.toUInt16.toUInt32.toInt32), cM301.2)
def cS332 : ev_S := ev_pS cS331 112 79 164
def cS333 : ev_S := ev_nS cS332 101 3
def cM303 : ev_M := (ev_up cM302.1 165 (0 : Int32).toNatClampNeg ((109 : Int32).toUInt32.toUInt16.toUInt32.toInt32), cM302.2)
def cM304 : ev_M := (ev_up cM303.1 165 (1 : Int32).toNatClampNeg ((97 : Int32).toUInt32.toUInt16.toUInt32.toInt32), cM303.2)
def cM305 : ev_M := (ev_up cM304.1 165 (2 : Int32).toNatClampNeg ((120 : Int32).toUInt32.toUInt16.toUInt32.toInt32), cM304.2)
def cS334 : ev_S := ev_pS cS333 112 80 165
def cS335 : ev_S := ev_nS cS334 101 5
def cM306 : ev_M := (ev_up cM305.1 166 (0 : Int32).toNatClampNeg ((104 : Int32).toUInt32.toUInt16.toUInt32.toInt32), cM305.2)
def cM307 : ev_M := (ev_up cM306.1 166 (1 : Int32).toNatClampNeg ((101 : Int32).toUInt32.toUInt16.toUInt32.toInt32), cM306.2)
def cM308 : ev_M := (ev_up cM307.1 166 (2 : Int32).toNatClampNeg ((97 : Int32).toUInt32.toUInt16.toUInt32.toInt32), cM307.2)
def cM309 : ev_M := (ev_up cM308.1 166 (3 : Int32).toNatClampNeg ((114 : Int32).toUInt32.toUInt16.toUInt32.toInt32), cM308.2)
def cM310 : ev_M := (ev_up cM309.1 166 (4 : Int32).toNatClampNeg ((100 : Int32).toUInt32.toUInt16.toUInt32.toInt32), cM309.2)
def cS336 : ev_S := ev_pS cS335 112 81 166
def cS337 : ev_S := ev_nS cS336 101 4
def cM311 : ev_M := (ev_up cM310.1 167 (0 : Int32).toNatClampNeg ((109 : Int32).toUInt32.toUInt16.toUInt32.toInt32), cM310.2)
def cM312 : ev_M := (ev_up cM311.1 167 (1 : Int32).toNatClampNeg ((111 : Int32).toUInt32.toUInt16.toUInt32.toInt32), cM311.2)
def cM313 : ev_M := (ev_up cM312.1 167 (2 : Int32).toNatClampNeg ((111 : Int32).toUInt32.toUInt16.toUInt32.toInt32), cM312.2)
def cM314 : ev_M := (ev_up cM313.1 167 (3 : Int32).toNatClampNeg ((100 : Int32).toUInt32.toUInt16.toUInt32.toInt32), cM313.2)
def cS338 : ev_S := ev_pS cS337 112 82 167
def cS339 : ev_S := ev_nS cS338 101 5
def cM315 : ev_M := (ev_up cM314.1 168 (0 : Int32).toNatClampNeg ((99 : Int32).toUInt32.toUInt16.toUInt32.toInt32), cM314.2)
def cM316 : ev_M := (ev_up cM315.1 168 (1 : Int32).toNatClampNeg ((104 : Int32).toUInt32.toUInt16.toUInt32.toInt32), cM315.2)
def cM317 : ev_M := (ev_up cM316.1 168 (2 : Int32).toNatClampNeg ((101 : Int32).toUInt32.toUInt16.toUInt32.toInt32), cM316.2)
def cM318 : ev_M := (ev_up cM317.1 168 (3 : Int32).toNatClampNeg ((101 : Int32).toUInt32.toUInt16.toUInt32.toInt32), cM317.2)
def cM319 : ev_M := (ev_up cM318.1 168 (4 : Int32).toNatClampNeg ((114 : Int32).toUInt32.toUInt16.toUInt32.toInt32), cM318.2)
def cS340 : ev_S := ev_pS cS339 112 83 168
def cS341 : ev_S := ev_nS cS340 101 5
def cM320 : ev_M := (ev_up cM319.1 169 (0 : Int32).toNatClampNeg ((114 : Int32).toUInt32.toUInt16.toUInt32.toInt32), cM319.2)
def cM321 : ev_M := (ev_up cM320.1 169 (1 : Int32).toNatClampNeg ((111 : Int32).toUInt32.toUInt16.toUInt32.toInt32), cM320.2)
def cM322 : ev_M := (ev_up cM321.1 169 (2 : Int32).toNatClampNeg ((117 : Int32).toUInt32.toUInt16.toUInt32.toInt32), cM321.2)
def cM323 : ev_M := (ev_up cM322.1 169 (3 : Int32).toNatClampNeg ((110 : Int32).toUInt32.toUInt16.toUInt32.toInt32), cM322.2)
def cM324 : ev_M := (ev_up cM323.1 169 (4 : Int32).toNatClampNeg ((100 : Int32).toUInt32.toUInt16.toUInt32.toInt32), cM323.2)
def cS342 : ev_S := ev_pS cS341 112 84 169
def cS343 : ev_S := ev_nS cS342 101 5
def cM325 : ev_M := (ev_up cM324.1 170 (0 : Int32).toNatClampNeg ((112 : Int32).toUInt32.toUInt16.toUInt32.toInt32), cM324.2)
def cM326 : ev_M := (ev_up cM325.1 170 (1 : Int32).toNatClampNeg ((108 : Int32).toUInt32.toUInt16.toUInt32.toInt32), cM325.2)
def cM327 : ev_M := (ev_up cM326.1 170 (2 : Int32).toNatClampNeg ((97 : Int32).toUInt32.toUInt16.toUInt32.toInt32), cM326.2)
def cM328 : ev_M := (ev_up cM327.1 170 (3 : Int32).toNatClampNeg ((99 : Int32).toUInt32.toUInt16.toUInt32.toInt32), cM327.2)
def cM329 : ev_M := (ev_up cM328.1 170 (4 : Int32).toNatClampNeg ((101 : Int32).toUInt32.toUInt16.toUInt32.toInt32), cM328.2)
def cS344 : ev_S := ev_pS cS343 112 85 170
def cS345 : ev_S := ev_nS cS344 101 4
def cM330 : ev_M := (ev_up cM329.1 171 (0 : Int32).toNatClampNeg ((115 : Int32).toUInt32.toUInt16.toUInt32.toInt32), cM329.2)
def cM331 : ev_M := (ev_up cM330.1 171 (1 : Int32).toNatClampNeg ((105 : Int32).toUInt32.toUInt16.toUInt32.toInt32), cM330.2)
def cM332 : ev_M := (ev_up cM331.1 171 (2 : Int32).toNatClampNeg ((103 : Int32).toUInt32.toUInt16.toUInt32.toInt32), cM331.2)
def cM333 : ev_M := (ev_up cM332.1 171 (3 : Int32).toNatClampNeg ((104 : Int32).toUInt32.toUInt16.toUInt32.toInt32), cM332.2)
def cS346 : ev_S := ev_pS cS345 112 86 171
def cS347 : ev_S := ev_nS cS346 101 4
def cM334 : ev_M := (ev_up cM333.1 172 (0 : Int32).toNatClampNeg ((116 : Int32).toUInt32.toUInt16.toUInt32.toInt32), cM333.2)
def cM335 : ev_M := (ev_up cM334.1 172 (1 : Int32).toNatClampNeg ((111 : Int32).toUInt32.toUInt16.toUInt32.toInt32), cM334.2)
def cM336 : ev_M := (ev_up cM335.1 172 (2 : Int32).toNatClampNeg ((110 : Int32).toUInt32.toUInt16.toUInt32.toInt32), cM335.2)
def cM337 : ev_M := (ev_up cM336.1 172 (3 : Int32).toNatClampNeg ((101 : Int32).toUInt32.toUInt16.toUInt32.toInt32), cM336.2)
def cS348 : ev_S := ev_pS cS347 112 87 172
def cS349 : ev_S := ev_nS cS348 101 6
def cM338 : ev_M := (ev_up cM337.1 173 (0 : Int32).toNatClampNeg ((110 : Int32).toUInt32.toUInt16.toUInt32.toInt32), cM337.2)
def cM339 : ev_M := (ev_up cM338.1 173 (1 : Int32).toNatClampNeg ((117 : Int32).toUInt32.toUInt16.toUInt32.toInt32), cM338.2)
def cM340 : ev_M := (ev_up cM339.1 173 (2 : Int32).toNatClampNeg ((109 : Int32).toUInt32.toUInt16.toUInt32.toInt32), cM339.2)
def cM341 : ev_M := (ev_up cM340.1 173 (3 : Int32).toNatClampNeg ((98 : Int32).toUInt32.toUInt16.toUInt32.toInt32), cM340.2)
def cM342 : ev_M := (ev_up cM341.1 173 (4 : Int32).toNatClampNeg ((101 : Int32).toUInt32.toUInt16.toUInt32.toInt32), cM341.2)
def cM343 : ev_M := (ev_up cM342.1 173 (5 : Int32).toNatClampNeg ((114 : Int32).toUInt32.toUInt16.toUInt32.toInt32), cM342.2)
def cS350 : ev_S := ev_pS cS349 112 88 173
def cS351 : ev_S := ev_nS cS350 101 4
def cM344 : ev_M := (ev_up cM343.1 174 (0 : Int32).toNatClampNeg ((103 : Int32).toUInt32.toUInt16.toUInt32.toInt32), cM343.2)
def cM345 : ev_M := (ev_up cM344.1 174 (1 : Int32).toNatClampNeg ((108 : Int32).toUInt32.toUInt16.toUInt32.toInt32), cM344.2)
def cM346 : ev_M := (ev_up cM345.1 174 (2 : Int32).toNatClampNeg ((97 : Int32).toUInt32.toUInt16.toUInt32.toInt32), cM345.2)
def cM347 : ev_M := (ev_up cM346.1 174 (3 : Int32).toNatClampNeg ((100 : Int32).toUInt32.toUInt16.toUInt32.toInt32), cM346.2)
def cS352 : ev_S := ev_pS cS351 112 89 174
def cS353 : ev_S := ev_nS cS352 101 3
def cM348 : ev_M := (ev_up cM347.1 175 (0 : Int32).toNatClampNeg ((121 : Int32).toUInt32.toUInt16.toUInt32.toInt32), cM347.2)
def cM349 : ev_M := (ev_up cM348.1 175 (1 : Int32).toNatClampNeg ((101 : Int32).toUInt32.toUInt16.toUInt32.toInt32), cM348.2)
def cM350 : ev_M := (ev_up cM349.1 175 (2 : Int32).toNatClampNeg ((115 : Int32).toUInt32.toUInt16.toUInt32.toInt32), cM349.2)
def cS354 : ev_S := ev_pS cS353 112 90 175
def cS355 : ev_S := ev_nS cS354 101 5
def cM351 : ev_M := (ev_up cM350.1 176 (0 : Int32).toNatClampNeg ((104 : Int32).toUInt32.toUInt16.toUInt32.toInt32), cM350.2)
def cM352 : ev_M := (ev_up cM351.1 176 (1 : Int32).toNatClampNeg ((101 : Int32).toUInt32.toUInt16.toUInt32.toInt32), cM351.2)
def cM353 : ev_M := (ev_up cM352.1 176 (2 : Int32).toNatClampNeg ((97 : Int32).toUInt32.toUInt16.toUInt32.toInt32), cM352.2)
def cM354 : ev_M := (ev_up cM353.1 176 (3 : Int32).toNatClampNeg ((114 : Int32).toUInt32.toUInt16.toUInt32.toInt32), cM353.2)
def cM355 : ev_M := (ev_up cM354.1 176 (4 : Int32).toNatClampNeg ((100 : Int32).toUInt32.toUInt16.toUInt32.toInt32), cM354.2)
def cS356 : ev_S := ev_pS cS355 112 91 176
def cS357 : ev_S := ev_nS cS356 100 1700
def cS358 : ev_S := ev_pS cS357 112 92 177
def cS359 : ev_S := ev_nS cS358 100 1700
def cS360 : ev_S := ev_pS cS359 112 94 178
def cS361 : ev_S := ev_nS cS360 102 1700
def cS362 : ev_S := ev_pS cS361 112 98 179
def cS363 : ev_S := ev_nS cS362 100 28
def cS364 : ev_S := ev_pS cS363 112 102 180
set_option maxRecDepth 100000 in
theorem wo_11_1 : Cond.methodLink (ev_cn 11) 1 objectInit ∈ lw_tbl := ev_t1 (List.mem_of_getElem? (i := 25) rfl)
set_option maxRecDepth 100000 in
theorem wobj_i : Cond.instanceMethod objectInit ∈ lw_tbl := ev_t1 (List.mem_of_getElem? (i := 26) rfl)
set_option maxRecDepth 100000 in
theorem wobj_c : Cond.code objectInit ⟨#[0xb1]⟩ 1 none ∈ lw_tbl := ev_t1 (List.mem_of_getElem? (i := 27) rfl)
set_option maxRecDepth 100000 in
theorem wc_11_7 : Cond.classLink (ev_cn 11) 7 RX1 ∈ lw_tbl := ev_t1 (List.mem_of_getElem? (i := 28) rfl)
set_option maxRecDepth 100000 in
theorem wi_1 : Cond.instantiable RX1 15 ∈ lw_tbl := ev_t1 (List.mem_of_getElem? (i := 29) rfl)
set_option maxRecDepth 100000 in
theorem wn_1 : Cond.initialized RX1 ∈ lw_tbl := ev_t1 (List.mem_of_getElem? (i := 2) rfl)
set_option maxRecDepth 100000 in
theorem wm_11_9 : Cond.methodLinkNest (ev_cn 11) 9 YX1_init.1 "AllIsWell" ∈ lw_tbl := ev_t1 (List.mem_of_getElem? (i := 30) rfl)
set_option maxRecDepth 100000 in
theorem wo_1_3 : Cond.methodLink (ev_cn 1) 3 objectInit ∈ lw_tbl := ev_t1 (List.mem_of_getElem? (i := 33) rfl)
set_option maxRecDepth 100000 in
theorem wa_int : Cond.arrayClass .int ∈ lw_tbl := ev_t1 (List.mem_of_getElem? (i := 50) rfl)
set_option maxRecDepth 100000 in
theorem wc_1_21 : Cond.classLink (ev_cn 1) 21 RX2 ∈ lw_tbl := ev_t1 (List.mem_of_getElem? (i := 34) rfl)
set_option maxRecDepth 100000 in
theorem wi_2 : Cond.instantiable RX2 2 ∈ lw_tbl := ev_t1 (List.mem_of_getElem? (i := 35) rfl)
set_option maxRecDepth 100000 in
theorem wn_2 : Cond.initialized RX2 ∈ lw_tbl := ev_t1 (List.mem_of_getElem? (i := 3) rfl)
set_option maxRecDepth 100000 in
theorem wm_1_23 : Cond.methodLinkNest (ev_cn 1) 23 YX2_init.1 "AllIsWell" ∈ lw_tbl := ev_t1 (List.mem_of_getElem? (i := 36) rfl)
set_option maxRecDepth 100000 in
theorem wo_2_3 : Cond.methodLink (ev_cn 2) 3 objectInit ∈ lw_tbl := ev_t1 (List.mem_of_getElem? (i := 39) rfl)
set_option maxRecDepth 100000 in
theorem wc_11_19 : Cond.classLink (ev_cn 11) 19 RX10 ∈ lw_tbl := ev_t1 (List.mem_of_getElem? (i := 114) rfl)
set_option maxRecDepth 100000 in
theorem wi_10 : Cond.instantiable RX10 8 ∈ lw_tbl := ev_t1 (List.mem_of_getElem? (i := 115) rfl)
set_option maxRecDepth 100000 in
theorem wn_10 : Cond.initialized RX10 ∈ lw_tbl := ev_t1 (List.mem_of_getElem? (i := 4) rfl)
set_option maxRecDepth 100000 in
theorem wm_11_21 : Cond.methodLinkNest (ev_cn 11) 21 YX10_init.1 "AllIsWell" ∈ lw_tbl := ev_t1 (List.mem_of_getElem? (i := 116) rfl)
set_option maxRecDepth 100000 in
theorem wo_10_3 : Cond.methodLink (ev_cn 10) 3 objectInit ∈ lw_tbl := ev_t1 (List.mem_of_getElem? (i := 119) rfl)
set_option maxRecDepth 100000 in
theorem wc_11_26 : Cond.classLink (ev_cn 11) 26 RX9 ∈ lw_tbl := ev_t1 (List.mem_of_getElem? (i := 154) rfl)
set_option maxRecDepth 100000 in
theorem wi_9 : Cond.instantiable RX9 5 ∈ lw_tbl := ev_t1 (List.mem_of_getElem? (i := 155) rfl)
set_option maxRecDepth 100000 in
theorem wn_9 : Cond.initialized RX9 ∈ lw_tbl := ev_t1 (List.mem_of_getElem? (i := 5) rfl)
set_option maxRecDepth 100000 in
theorem wm_11_28 : Cond.methodLink (ev_cn 11) 28 YX9_init.1 ∈ lw_tbl := ev_t1 (List.mem_of_getElem? (i := 156) rfl)
set_option maxRecDepth 100000 in
theorem wo_9_3 : Cond.methodLink (ev_cn 9) 3 objectInit ∈ lw_tbl := ev_t1 (List.mem_of_getElem? (i := 159) rfl)
set_option maxRecDepth 100000 in
theorem wc_11_35 : Cond.classLink (ev_cn 11) 35 RX3 ∈ lw_tbl := ev_t1 (List.mem_of_getElem? (i := 177) rfl)
set_option maxRecDepth 100000 in
theorem wi_3 : Cond.instantiable RX3 4 ∈ lw_tbl := ev_t1 (List.mem_of_getElem? (i := 178) rfl)
set_option maxRecDepth 100000 in
theorem wn_3 : Cond.initialized RX3 ∈ lw_tbl := ev_t1 (List.mem_of_getElem? (i := 6) rfl)
set_option maxRecDepth 100000 in
theorem wm_11_37 : Cond.methodLink (ev_cn 11) 37 YX3_init.1 ∈ lw_tbl := ev_t1 (List.mem_of_getElem? (i := 179) rfl)
set_option maxRecDepth 100000 in
theorem wo_3_3 : Cond.methodLink (ev_cn 3) 3 objectInit ∈ lw_tbl := ev_t1 (List.mem_of_getElem? (i := 182) rfl)
set_option maxRecDepth 100000 in
theorem wc_3_9 : Cond.classLink (ev_cn 3) 9 RX5 ∈ lw_tbl := ev_t1 (List.mem_of_getElem? (i := 183) rfl)
set_option maxRecDepth 100000 in
theorem wi_5 : Cond.instantiable RX5 4 ∈ lw_tbl := ev_t1 (List.mem_of_getElem? (i := 184) rfl)
set_option maxRecDepth 100000 in
theorem wn_5 : Cond.initialized RX5 ∈ lw_tbl := ev_t1 (List.mem_of_getElem? (i := 7) rfl)
set_option maxRecDepth 100000 in
theorem wm_3_11 : Cond.methodLinkNest (ev_cn 3) 11 YX5_init.1 "AllIsWell" ∈ lw_tbl := ev_t1 (List.mem_of_getElem? (i := 185) rfl)
set_option maxRecDepth 100000 in
theorem wo_5_3 : Cond.methodLink (ev_cn 5) 3 objectInit ∈ lw_tbl := ev_t1 (List.mem_of_getElem? (i := 188) rfl)
set_option maxRecDepth 100000 in
theorem wc_11_44 : Cond.classLink (ev_cn 11) 44 RX7 ∈ lw_tbl := ev_t1 (List.mem_of_getElem? (i := 224) rfl)
set_option maxRecDepth 100000 in
theorem wi_7 : Cond.instantiable RX7 7 ∈ lw_tbl := ev_t1 (List.mem_of_getElem? (i := 225) rfl)
set_option maxRecDepth 100000 in
theorem wn_7 : Cond.initialized RX7 ∈ lw_tbl := ev_t1 (List.mem_of_getElem? (i := 8) rfl)
set_option maxRecDepth 100000 in
theorem wm_11_46 : Cond.methodLink (ev_cn 11) 46 YX7_init.1 ∈ lw_tbl := ev_t1 (List.mem_of_getElem? (i := 226) rfl)
set_option maxRecDepth 100000 in
theorem wo_7_3 : Cond.methodLink (ev_cn 7) 3 objectInit ∈ lw_tbl := ev_t1 (List.mem_of_getElem? (i := 229) rfl)
set_option maxRecDepth 100000 in
theorem wc_7_9 : Cond.classLink (ev_cn 7) 9 RX2 ∈ lw_tbl := ev_t1 (List.mem_of_getElem? (i := 230) rfl)
set_option maxRecDepth 100000 in
theorem wm_7_11 : Cond.methodLinkNest (ev_cn 7) 11 YX2_init.1 "AllIsWell" ∈ lw_tbl := ev_t1 (List.mem_of_getElem? (i := 231) rfl)
set_option maxRecDepth 100000 in
theorem wc_7_18 : Cond.classLink (ev_cn 7) 18 RX8 ∈ lw_tbl := ev_t1 (List.mem_of_getElem? (i := 232) rfl)
set_option maxRecDepth 100000 in
theorem wi_8 : Cond.instantiable RX8 6 ∈ lw_tbl := ev_t1 (List.mem_of_getElem? (i := 233) rfl)
set_option maxRecDepth 100000 in
theorem wn_8 : Cond.initialized RX8 ∈ lw_tbl := ev_t1 (List.mem_of_getElem? (i := 9) rfl)
set_option maxRecDepth 100000 in
theorem wm_7_20 : Cond.methodLinkNest (ev_cn 7) 20 YX8_init.1 "AllIsWell" ∈ lw_tbl := ev_t1 (List.mem_of_getElem? (i := 234) rfl)
set_option maxRecDepth 100000 in
theorem wo_8_3 : Cond.methodLink (ev_cn 8) 3 objectInit ∈ lw_tbl := ev_t1 (List.mem_of_getElem? (i := 237) rfl)
set_option maxRecDepth 100000 in
theorem wc_11_53 : Cond.classLink (ev_cn 11) 53 RX0 ∈ lw_tbl := ev_t2 (List.mem_of_getElem? (i := 58) rfl)
set_option maxRecDepth 100000 in
theorem wi_0 : Cond.instantiable RX0 5 ∈ lw_tbl := ev_t2 (List.mem_of_getElem? (i := 59) rfl)
set_option maxRecDepth 100000 in
theorem wn_0 : Cond.initialized RX0 ∈ lw_tbl := ev_t1 (List.mem_of_getElem? (i := 10) rfl)
set_option maxRecDepth 100000 in
theorem wm_11_55 : Cond.methodLink (ev_cn 11) 55 YX0_init.1 ∈ lw_tbl := ev_t2 (List.mem_of_getElem? (i := 60) rfl)
set_option maxRecDepth 100000 in
theorem wo_0_3 : Cond.methodLink (ev_cn 0) 3 objectInit ∈ lw_tbl := ev_t2 (List.mem_of_getElem? (i := 63) rfl)
set_option maxRecDepth 100000 in
theorem wc_0_9 : Cond.classLink (ev_cn 0) 9 RX8 ∈ lw_tbl := ev_t2 (List.mem_of_getElem? (i := 64) rfl)
set_option maxRecDepth 100000 in
theorem wm_0_11 : Cond.methodLinkNest (ev_cn 0) 11 YX8_init.1 "AllIsWell" ∈ lw_tbl := ev_t2 (List.mem_of_getElem? (i := 65) rfl)
set_option maxRecDepth 100000 in
theorem wc_11_62 : Cond.classLink (ev_cn 11) 62 RX4 ∈ lw_tbl := ev_t2 (List.mem_of_getElem? (i := 85) rfl)
set_option maxRecDepth 100000 in
theorem wi_4 : Cond.instantiable RX4 10 ∈ lw_tbl := ev_t2 (List.mem_of_getElem? (i := 86) rfl)
set_option maxRecDepth 100000 in
theorem wn_4 : Cond.initialized RX4 ∈ lw_tbl := ev_t1 (List.mem_of_getElem? (i := 11) rfl)
set_option maxRecDepth 100000 in
theorem wm_11_64 : Cond.methodLink (ev_cn 11) 64 YX4_init.1 ∈ lw_tbl := ev_t2 (List.mem_of_getElem? (i := 87) rfl)
set_option maxRecDepth 100000 in
theorem wo_4_3 : Cond.methodLink (ev_cn 4) 3 objectInit ∈ lw_tbl := ev_t2 (List.mem_of_getElem? (i := 90) rfl)
set_option maxRecDepth 100000 in
theorem wc_4_9 : Cond.classLink (ev_cn 4) 9 RX8 ∈ lw_tbl := ev_t2 (List.mem_of_getElem? (i := 91) rfl)
set_option maxRecDepth 100000 in
theorem wm_4_11 : Cond.methodLinkNest (ev_cn 4) 11 YX8_init.1 "AllIsWell" ∈ lw_tbl := ev_t2 (List.mem_of_getElem? (i := 92) rfl)
set_option maxRecDepth 100000 in
theorem wc_11_69 : Cond.classLink (ev_cn 11) 69 RX6 ∈ lw_tbl := ev_t2 (List.mem_of_getElem? (i := 128) rfl)
set_option maxRecDepth 100000 in
theorem wi_6 : Cond.instantiable RX6 4 ∈ lw_tbl := ev_t2 (List.mem_of_getElem? (i := 129) rfl)
set_option maxRecDepth 100000 in
theorem wn_6 : Cond.initialized RX6 ∈ lw_tbl := ev_t1 (List.mem_of_getElem? (i := 12) rfl)
set_option maxRecDepth 100000 in
theorem wm_11_71 : Cond.methodLink (ev_cn 11) 71 YX6_init.1 ∈ lw_tbl := ev_t2 (List.mem_of_getElem? (i := 130) rfl)
set_option maxRecDepth 100000 in
theorem wo_6_3 : Cond.methodLink (ev_cn 6) 3 objectInit ∈ lw_tbl := ev_t2 (List.mem_of_getElem? (i := 133) rfl)
set_option maxRecDepth 100000 in
theorem wca_6_9 : Cond.classLink (ev_cn 6) 9 "AllIsWell$State" ∈ lw_tbl := ev_t2 (List.mem_of_getElem? (i := 134) rfl)
set_option maxRecDepth 100000 in
theorem wover : Cond.arrayOver (.object "AllIsWell$State") ∈ lw_tbl := ev_t2 (List.mem_of_getElem? (i := 135) rfl)
set_option maxRecDepth 100000 in
theorem wc_6_9 : Cond.classLink (ev_cn 6) 9 RX8 ∈ lw_tbl := ev_t2 (List.mem_of_getElem? (i := 134) rfl)
set_option maxRecDepth 100000 in
theorem wm_6_28 : Cond.methodLinkNest (ev_cn 6) 28 YX8_init.1 "AllIsWell" ∈ lw_tbl := ev_t2 (List.mem_of_getElem? (i := 136) rfl)
set_option maxRecDepth 100000 in
theorem wc_11_76 : Cond.classLink (ev_cn 11) 76 RX8 ∈ lw_tbl := ev_t2 (List.mem_of_getElem? (i := 151) rfl)
set_option maxRecDepth 100000 in
theorem wm_11_78 : Cond.methodLinkNest (ev_cn 11) 78 YX8_init.1 "AllIsWell" ∈ lw_tbl := ev_t2 (List.mem_of_getElem? (i := 152) rfl)
set_option maxRecDepth 100000 in
theorem wa_long : Cond.arrayClass .long ∈ lw_tbl := ev_t2 (List.mem_of_getElem? (i := 208) rfl)
set_option maxRecDepth 100000 in
theorem wo_12_1 : Cond.methodLink (ev_cn 12) 1 objectInit ∈ lw_tbl := ev_t5 (List.mem_of_getElem? (i := 190) rfl)
set_option maxRecDepth 100000 in
theorem wa_char : Cond.arrayClass .char ∈ lw_tbl := ev_t7 (List.mem_of_getElem? (i := 24) rfl)
set_option maxRecDepth 100000 in
theorem wa_boolean : Cond.arrayClass .boolean ∈ lw_tbl := ev_t7 (List.mem_of_getElem? (i := 25) rfl)
