/-! Typed worlds: a state S tells for each kind of cell, each one of that kind and each place in it a number; the mirrored programs work on such states. -/
abbrev pw_S : Type := Nat → Nat → Nat → Int32
abbrev pw_R (α : Type) : Type := Option (pw_S × α)
def pw_up (S : pw_S) (a i : Nat) (d : Nat → Int32) : pw_S := fun a' i' => if a' = a ∧ i' = i then d else S a' i'
def pw_l {σ β : Type} (x : σ) (k : σ → β) : β := k x
def pw_c {β : Type} (b : Bool) (o : pw_R β) : pw_R β := match b with
  | true => o
  | false => none
def pw_b {α β : Type} (o : pw_R α) (k : pw_S → α → pw_R β) : pw_R β := match o with
  | none => none
  | some (s, r) => k s r
def pw_o {β : Type} (r : Option Nat) (a : pw_R β) (b : Nat → pw_R β) : pw_R β := match r with
  | none => a
  | some i => b i
def pw_e {α β : Type} (r : α ⊕ Nat) (a : α → pw_R β) (b : Nat → pw_R β) : pw_R β := match r with
  | .inl v => a v
  | .inr e => b e
def pw_p {α : Type} (o : pw_R α) (P : pw_S → α → Prop) : Prop := match o with
  | none => False
  | some (s, r) => P s r
def pw_bs : List (Nat × Nat) := [(33, 3), (34, 3), (1343, 11), (1344, 11), (1345, 11), (1346, 11), (1347, 11), (1348, 11), (1349, 11), (1350, 11), (1351, 11), (1408, 2), (1412, 6), (1413, 6), (1414, 6), (1415, 6), (1416, 6), (1424, 3), (1425, 3), (1337, 0), (1338, 0), (1339, 0), (1442, 7), (1443, 7), (1444, 7), (1445, 7), (1446, 7), (1447, 7), (12, 0), (13, 0), (22, 0), (23, 0), (24, 0), (1255, 0), (1256, 0), (8, 0), (1497, 0), (1498, 0), (1499, 0), (1500, 0), (0, 0), (18, 0), (1254, 0), (7, 0), (9, 0), (10, 0), (1335, 0), (1340, 0), (0, 0), (0, 0), (32, 3), (1342, 11), (1341, 11), (1407, 2), (1411, 6), (1423, 3), (1336, 0), (1441, 7), (11, 0), (17, 0), (1253, 0), (1, 0)]
def pw_sp : List (Nat × Nat) := [(407, 20), (408, 15), (1407, 21), (1408, 16), (2006, 3), (2007, 26), (3006, 4), (3007, 27), (4006, 5), (4007, 28), (5006, 6), (5007, 29), (11002, 31), (50407, 19), (50408, 14), (51006, 2), (51007, 25), (53002, 30)]
def pw_fd : List (Nat × Nat) → Nat → Option Nat
  | [], _ => none
  | (j, p) :: r, k => match Nat.beq j k with
    | true => some p
    | false => pw_fd r k
def pw_inv : List Nat := [0, 61000, 51006, 2006, 3006, 4006, 5006, 43000, 35000, 44000, 45000, 58000, 28000, 29000, 50408, 408, 1408, 59000, 41000, 50407, 407, 1407, 30000, 31000, 32000, 51007, 2007, 3007, 4007, 5007, 53002, 11002, 50000, 0, 1000, 50001, 1, 1001, 50002, 2, 1002, 50003, 3, 1003, 50004, 4, 1004, 50005, 5, 1005, 50006, 6, 1006, 50007, 7, 1007, 50008, 8, 1008, 50009, 9, 1009, 50010, 10, 1010, 50011, 11, 1011, 50012, 12, 1012, 50013, 13, 1013, 50014, 14, 1014, 50015, 15, 1015, 50016, 16, 1016, 50017, 17, 1017, 50018, 18, 1018, 50019, 19, 1019, 50020, 20, 1020, 50021, 21, 1021, 50022, 22, 1022, 50023, 23, 1023, 50024, 24, 1024, 50025, 25, 1025, 50026, 26, 1026, 50027, 27, 1027, 50028, 28, 1028, 50029, 29, 1029, 50030, 30, 1030, 50031, 31, 1031, 50032, 32, 1032, 50033, 33, 1033, 50034, 34, 1034, 50035, 35, 1035, 50036, 36, 1036, 50037, 37, 1037, 50038, 38, 1038, 50039, 39, 1039, 50040, 40, 1040, 50041, 41, 1041, 50042, 42, 1042, 50043, 43, 1043, 50044, 44, 1044, 50045, 45, 1045, 50046, 46, 1046, 50047, 47, 1047, 50048, 48, 1048, 50049, 49, 1049, 50050, 50, 1050, 50051, 51, 1051, 50052, 52, 1052, 50053, 53, 1053, 50054, 54, 1054, 50055, 55, 1055, 50056, 56, 1056, 50057, 57, 1057, 50058, 58, 1058, 50059, 59, 1059, 50060, 60, 1060, 50061, 61, 1061, 50062, 62, 1062, 50063, 63, 1063, 50064, 64, 1064, 50065, 65, 1065, 50066, 66, 1066, 50067, 67, 1067, 50068, 68, 1068, 50069, 69, 1069, 50070, 70, 1070, 50071, 71, 1071, 50072, 72, 1072, 50073, 73, 1073, 50074, 74, 1074, 50075, 75, 1075, 50076, 76, 1076, 50077, 77, 1077, 50078, 78, 1078, 50079, 79, 1079, 50080, 80, 1080, 50081, 81, 1081, 50082, 82, 1082, 50083, 83, 1083, 50084, 84, 1084, 50085, 85, 1085, 50086, 86, 1086, 50087, 87, 1087, 50088, 88, 1088, 50089, 89, 1089, 50090, 90, 1090, 50091, 91, 1091, 50092, 92, 1092, 50093, 93, 1093, 50094, 94, 1094, 50095, 95, 1095, 50096, 96, 1096, 50097, 97, 1097, 50098, 98, 1098, 50099, 99, 1099, 50100, 100, 1100, 50101, 101, 1101, 50102, 102, 1102, 50103, 103, 1103, 50104, 104, 1104, 50105, 105, 1105, 50106, 106, 1106, 50107, 107, 1107, 50108, 108, 1108, 50109, 109, 1109, 50110, 110, 1110, 50111, 111, 1111, 50112, 112, 1112, 50113, 113, 1113, 50114, 114, 1114, 50115, 115, 1115, 50116, 116, 1116, 50117, 117, 1117, 50118, 118, 1118, 50119, 119, 1119, 50120, 120, 1120, 50121, 121, 1121, 50122, 122, 1122, 50123, 123, 1123, 50124, 124, 1124, 50125, 125, 1125, 50126, 126, 1126, 50127, 127, 1127, 50128, 128, 1128, 50129, 129, 1129, 50130, 130, 1130, 50131, 131, 1131, 50132, 132, 1132, 50133, 133, 1133, 50134, 134, 1134, 50135, 135, 1135, 50136, 136, 1136, 50137, 137, 1137, 50138, 138, 1138, 50139, 139, 1139, 50140, 140, 1140, 50141, 141, 1141, 50142, 142, 1142, 50143, 143, 1143, 50144, 144, 1144, 50145, 145, 1145, 50146, 146, 1146, 50147, 147, 1147, 50148, 148, 1148, 50149, 149, 1149, 50150, 150, 1150, 50151, 151, 1151, 50152, 152, 1152, 50153, 153, 1153, 50154, 154, 1154, 50155, 155, 1155, 50156, 156, 1156, 50157, 157, 1157, 50158, 158, 1158, 50159, 159, 1159, 50160, 160, 1160, 50161, 161, 1161, 50162, 162, 1162, 50163, 163, 1163, 50164, 164, 1164, 50165, 165, 1165, 50166, 166, 1166, 50167, 167, 1167, 50168, 168, 1168, 50169, 169, 1169, 50170, 170, 1170, 50171, 171, 1171, 50172, 172, 1172, 50173, 173, 1173, 50174, 174, 1174, 50175, 175, 1175, 50176, 176, 1176, 50177, 177, 1177, 50178, 178, 1178, 50179, 179, 1179, 50180, 180, 1180, 50181, 181, 1181, 50182, 182, 1182, 50183, 183, 1183, 50184, 184, 1184, 50185, 185, 1185, 50186, 186, 1186, 50187, 187, 1187, 50188, 188, 1188, 50189, 189, 1189, 50190, 190, 1190, 50191, 191, 1191, 50192, 192, 1192, 50193, 193, 1193, 50194, 194, 1194, 50195, 195, 1195, 50196, 196, 1196, 50197, 197, 1197, 50198, 198, 1198, 50199, 199, 1199, 50200, 200, 1200, 50201, 201, 1201, 50202, 202, 1202, 50203, 203, 1203, 50204, 204, 1204, 50205, 205, 1205, 50206, 206, 1206, 50207, 207, 1207, 50208, 208, 1208, 50209, 209, 1209, 50210, 210, 1210, 50211, 211, 1211, 50212, 212, 1212, 50213, 213, 1213, 50214, 214, 1214, 50215, 215, 1215, 50216, 216, 1216, 50217, 217, 1217, 50218, 218, 1218, 50219, 219, 1219, 50220, 220, 1220, 50221, 221, 1221, 50222, 222, 1222, 50223, 223, 1223, 50224, 224, 1224, 50225, 225, 1225, 50226, 226, 1226, 50227, 227, 1227, 50228, 228, 1228, 50229, 229, 1229, 50230, 230, 1230, 50231, 231, 1231, 50232, 232, 1232, 50233, 233, 1233, 50234, 234, 1234, 50235, 235, 1235, 50236, 236, 1236, 50237, 237, 1237, 50238, 238, 1238, 50239, 239, 1239, 50240, 240, 1240, 50241, 241, 1241, 50242, 242, 1242, 50243, 243, 1243, 50244, 244, 1244, 50245, 245, 1245, 50246, 246, 1246, 50247, 247, 1247, 50248, 248, 1248, 50249, 249, 1249, 50250, 250, 1250, 50251, 251, 1251, 50252, 252, 1252, 50253, 253, 1253, 50254, 254, 1254, 50255, 255, 1255, 50256, 256, 1256, 50257, 257, 1257, 50258, 258, 1258, 50259, 259, 1259, 50260, 260, 1260, 50261, 261, 1261, 50262, 262, 1262, 50263, 263, 1263, 50264, 264, 1264, 50265, 265, 1265, 50266, 266, 1266, 50267, 267, 1267, 50268, 268, 1268, 50269, 269, 1269, 50270, 270, 1270, 50271, 271, 1271, 50272, 272, 1272, 50273, 273, 1273, 50274, 274, 1274, 50275, 275, 1275, 50276, 276, 1276, 50277, 277, 1277, 50278, 278, 1278, 50279, 279, 1279, 50280, 280, 1280, 50281, 281, 1281, 50282, 282, 1282, 50283, 283, 1283, 50284, 284, 1284, 50285, 285, 1285, 50286, 286, 1286, 50287, 287, 1287, 50288, 288, 1288, 50289, 289, 1289, 50290, 290, 1290, 50291, 291, 1291, 50292, 292, 1292, 50293, 293, 1293, 50294, 294, 1294, 50295, 295, 1295, 50296, 296, 1296, 50297, 297, 1297, 50298, 298, 1298, 50299, 299, 1299, 50300, 300, 1300, 50301, 301, 1301, 50302, 302, 1302, 50303, 303, 1303, 50304, 304, 1304, 50305, 305, 1305, 50306, 306, 1306, 50307, 307, 1307, 50308, 308, 1308, 50309, 309, 1309, 50310, 310, 1310, 50311, 311, 1311, 50312, 312, 1312, 50313, 313, 1313, 50314, 314, 1314, 50315, 315, 1315, 50316, 316, 1316, 50317, 317, 1317, 50318, 318, 1318, 50319, 319, 1319, 50320, 320, 1320, 50321, 321, 1321, 50322, 322, 1322, 50323, 323, 1323, 50324, 324, 1324, 50325, 325, 1325, 50326, 326, 1326, 50327, 327, 1327, 50328, 328, 1328, 50329, 329, 1329, 50330, 330, 1330, 50331, 331, 1331, 50332, 332, 1332, 50333, 333, 1333, 50334, 334, 1334, 50335, 335, 1335, 50336, 336, 1336, 50337, 337, 1337, 50338, 338, 1338, 50339, 339, 1339, 50340, 340, 1340, 50341, 341, 1341, 50342, 342, 1342, 50343, 343, 1343, 50344, 344, 1344, 50345, 345, 1345, 50346, 346, 1346, 50347, 347, 1347, 50348, 348, 1348, 50349, 349, 1349, 50350, 350, 1350, 50351, 351, 1351, 50352, 352, 1352, 50353, 353, 1353, 50354, 354, 1354, 50355, 355, 1355, 50356, 356, 1356, 50357, 357, 1357, 50358, 358, 1358, 50359, 359, 1359, 50360, 360, 1360, 50361, 361, 1361, 50362, 362, 1362, 50363, 363, 1363, 50364, 364, 1364, 50365, 365, 1365, 50366, 366, 1366, 50367, 367, 1367, 50368, 368, 1368, 50369, 369, 1369, 50370, 370, 1370, 50371, 371, 1371, 50372, 372, 1372, 50373, 373, 1373, 50374, 374, 1374, 50375, 375, 1375, 50376, 376, 1376, 50377, 377, 1377, 50378, 378, 1378, 50379, 379, 1379, 50380, 380, 1380, 50381, 381, 1381, 50382, 382, 1382, 50383, 383, 1383, 50384, 384, 1384, 50385, 385, 1385, 50386, 386, 1386, 50387, 387, 1387, 50388, 388, 1388, 50389, 389, 1389, 50390, 390, 1390, 50391, 391, 1391, 50392, 392, 1392, 50393, 393, 1393, 50394, 394, 1394, 50395, 395, 1395, 50396, 396, 1396, 50397, 397, 1397, 50398, 398, 1398, 50399, 399, 1399, 50400, 400, 1400, 50401, 401, 1401, 50402, 402, 1402, 50403, 403, 1403, 50404, 404, 1404, 50405, 405, 1405, 50406, 406, 1406, 60000, 42000, 33000, 34000, 50409, 409, 1409, 50410, 410, 1410, 50411, 411, 1411, 50412, 412, 1412, 50413, 413, 1413, 50414, 414, 1414, 50415, 415, 1415, 50416, 416, 1416, 50417, 417, 1417, 50418, 418, 1418, 50419, 419, 1419, 50420, 420, 1420, 50421, 421, 1421, 50422, 422, 1422, 50423, 423, 1423, 50424, 424, 1424, 50425, 425, 1425, 50426, 426, 1426, 50427, 427, 1427, 50428, 428, 1428, 50429, 429, 1429, 50430, 430, 1430, 50431, 431, 1431, 50432, 432, 1432, 50433, 433, 1433, 50434, 434, 1434, 46000, 56000, 19000, 20000, 21000, 47000, 52000, 51000, 2000, 3000, 4000, 5000, 6000, 7000, 8000, 9000, 10000, 52001, 51001, 2001, 3001, 4001, 5001, 6001, 7001, 8001, 9001, 10001, 52002, 51002, 2002, 3002, 4002, 5002, 6002, 7002, 8002, 9002, 10002, 52003, 51003, 2003, 3003, 4003, 5003, 6003, 7003, 8003, 9003, 10003, 52004, 51004, 2004, 3004, 4004, 5004, 6004, 7004, 8004, 9004, 10004, 52005, 51005, 2005, 3005, 4005, 5005, 6005, 7005, 8005, 9005, 10005, 53000, 11000, 53001, 11001, 54000, 12000, 13000, 14000, 15000, 16000, 54001, 12001, 13001, 14001, 15001, 16001, 55000, 17000, 18000, 55001, 17001, 18001, 55002, 17002, 18002, 55003, 17003, 18003, 55004, 17004, 18004, 55005, 17005, 18005, 57000, 22000, 23000, 24000, 25000, 26000, 27000, 57001, 22001, 23001, 24001, 25001, 26001, 27001, 57002, 22002, 23002, 24002, 25002, 26002, 27002, 57003, 22003, 23003, 24003, 25003, 26003, 27003, 57004, 22004, 23004, 24004, 25004, 26004, 27004, 57005, 22005, 23005, 24005, 25005, 26005, 27005, 57006, 22006, 23006, 24006, 25006, 26006, 27006, 57007, 22007, 23007, 24007, 25007, 26007, 27007, 36000, 37000, 38000, 39000]
def pw_pl (a i : Nat) : Nat := match Nat.blt a 62 with
  | true => (match pw_fd pw_sp (1000 * a + i) with
    | some p => p
    | none => (match Nat.ble 409 i with
      | true => (match Nat.beq a 0 with
        | true => 31 + 3 * i
        | false => match Nat.beq a 1 with
          | true => 32 + 3 * i
          | false => 30 + 3 * i)
      | false => (pw_bs.getD a (0, 0)).1 + (pw_bs.getD a (0, 0)).2 * i))
  | false => 65436 + a
def pw_cnts : List Nat := [435, 435, 8, 8, 8, 8, 6, 6, 6, 6, 6, 3, 2, 2, 2, 2, 2, 6, 6, 1, 1, 1, 8, 8, 8, 8, 8, 8, 1, 1, 1, 1, 1, 1, 1, 1, 1, 1, 1, 1, 0, 1, 1, 1, 1, 1, 1, 1, 0, 0, 435, 8, 6, 3, 2, 6, 1, 8, 1, 1, 1, 1]
def pw_lens : List Nat := [24, 8, 14, 14, 14, 14, 8, 8, 8, 8, 8, 300, 576, 300, 256, 256, 192, 24, 24, 8, 8, 8, 60, 60, 8, 60, 60, 60, 60, 8, 8, 6, 6, 26, 26, 24, 18, 6, 24, 8, 0, 407, 26, 6, 2, 2, 6, 8, 0, 0, 0, 0, 0, 0, 0, 0, 0, 0, 0, 0, 0, 0]
def pw_cnt (q a : Nat) : Nat := match Nat.blt a 62 with
  | true => pw_cnts.getD a 0
  | false => match Nat.beq a 100 with
    | true => min q 1
    | false => match Nat.beq a 101 with
      | true => min (q - 1) 1
      | false => 0
def pw_len (a : Nat) : Nat := match Nat.blt a 62 with
  | true => pw_lens.getD a 0
  | false => 8
def pw_ok (q a i : Nat) : Bool := Nat.blt i (pw_cnt q a)
/-- rows of numbers that the helpers may be handed -/
def pw_arr (a : Nat) : Bool := (Nat.blt a 40 && !(Nat.beq a 11)) || Nat.ble 100 a
def pw_dn (n : Nat) (x : Int32) : Nat := x.toNatClampNeg % n
def pw_nr (a n : Nat) (x : Int32) : Value := match decide (x < 0) with
  | true => .null
  | false => .ref (pw_pl a (pw_dn n x))
def pw_v (a : Nat) (o : Option Nat) : Value := match o with
  | none => .null
  | some i => .ref (pw_pl a i)
def pw_oo (q a : Nat) (o : Option Nat) : Bool := match o with
  | none => true
  | some i => pw_ok q a i
def pw_ent (a i : Nat) (d : Nat → Int32) : np_E := match Nat.beq a 50 with
  | true => .inr (8, [.ref (pw_pl 0 i), .ref (pw_pl 1 i), .int (d 2), .int (d 3), .int (d 4), .int (d 5), .int (d 6), .int (d 7), .int (d 8)])
  | false => match Nat.beq a 51 with
  | true => .inr (2, [.ref (pw_pl 2 i), .ref (pw_pl 3 i), .ref (pw_pl 4 i), .ref (pw_pl 5 i), .int (d 4)])
  | false => match Nat.beq a 52 with
  | true => .inr (1, [.ref (pw_pl 51 i), .ref (pw_pl 6 i), .ref (pw_pl 7 i), .ref (pw_pl 8 i), .ref (pw_pl 9 i), .ref (pw_pl 10 i), .int (d 6)])
  | false => match Nat.beq a 53 with
  | true => .inr (7, [.ref (pw_pl 11 i), .int (d 1), .int (d 2)])
  | false => match Nat.beq a 54 with
  | true => .inr (6, [.ref (pw_pl 12 i), .ref (pw_pl 13 i), .ref (pw_pl 14 i), .ref (pw_pl 15 i), .ref (pw_pl 16 i), pw_nr 52 6 (d 5), .int (d 6), .int (d 7), .int (d 8), .int (d 9), .int (d 10), .int (d 11)])
  | false => match Nat.beq a 55 with
  | true => .inr (0, [.ref (pw_pl 17 i), .ref (pw_pl 18 i), pw_nr 54 2 (d 2), .int (d 3), .int (d 4), .int (d 5)])
  | false => match Nat.beq a 56 with
  | true => .inr (10, [.ref (pw_pl 19 0), .ref (pw_pl 20 0), .ref (pw_pl 21 0)])
  | false => match Nat.beq a 57 with
  | true => .inr (9, [.ref (pw_pl 22 i), .ref (pw_pl 23 i), .ref (pw_pl 24 i), .ref (pw_pl 25 i), .ref (pw_pl 26 i), .ref (pw_pl 27 i), .int (d 6)])
  | false => match Nat.beq a 58 with
  | true => .inr (3, [.ref (pw_pl 28 0), .ref (pw_pl 29 0), .ref (pw_pl 50 408)])
  | false => match Nat.beq a 59 with
  | true => .inr (4, [.ref (pw_pl 41 0), .ref (pw_pl 50 407), .ref (pw_pl 30 0), .ref (pw_pl 31 0), .ref (pw_pl 32 0), .ref (pw_pl 51 (pw_dn 8 (d 5))), .ref (pw_pl 53 (pw_dn 3 (d 6))), .int (d 7), .int (d 8), .int (d 9), .int (d 10)])
  | false => match Nat.beq a 60 with
  | true => .inr (5, [.ref (pw_pl 42 0), .ref (pw_pl 33 0), .ref (pw_pl 34 0), .int (d 3), .int (d 4)])
  | false => match Nat.beq a 61 with
  | true => .inr (11, [.ref (pw_pl 51 6), .ref (pw_pl 43 0), .int (d 2), .ref (pw_pl 35 0), .ref (pw_pl 44 0), .ref (pw_pl 45 0), .ref (pw_pl 58 0), .ref (pw_pl 59 0), .ref (pw_pl 60 0), .ref (pw_pl 46 0), .int (d 10), .ref (pw_pl 56 0), .ref (pw_pl 47 0), .int (d 13)])
  | false => match Nat.beq a 41 with
  | true => .inl (.object "NotationPress$Trace", 407, .inr (.inr (.inr (.inr (fun j => some (pw_pl 50 (j % 407)))))))
  | false => match Nat.beq a 42 with
  | true => .inl (.object "NotationPress$Trace", 26, .inr (.inr (.inr (.inr (fun j => some (pw_pl 50 (409 + j % 26)))))))
  | false => match Nat.beq a 43 with
  | true => .inl (.object "NotationPress$Description", 6, .inr (.inr (.inr (.inr (fun j => some (pw_pl 52 (j % 6)))))))
  | false => match Nat.beq a 44 with
  | true => .inl (.object "NotationPress$Text", 2, .inr (.inr (.inr (.inr (fun j => some (pw_pl 53 (j % 2)))))))
  | false => match Nat.beq a 45 with
  | true => .inl (.object "NotationPress$Table", 2, .inr (.inr (.inr (.inr (fun j => some (pw_pl 54 (j % 2)))))))
  | false => match Nat.beq a 46 with
  | true => .inl (.object "NotationPress$Column", 6, .inr (.inr (.inr (.inr (fun j => some (pw_pl 55 (j % 6)))))))
  | false => match Nat.beq a 47 with
  | true => .inl (.object "NotationPress$Upgrade", 8, .inr (.inr (.inr (.inr (fun j => some (pw_pl 57 (j % 8)))))))
  | false => match Nat.beq a 11 with
  | true => .inl (.char, 300, .inl d)
  | false => .inl (.int, pw_len a, .inl d)
theorem pw_ent_arr {a i : Nat} {d : Nat → Int32} (h : pw_arr a = true) : pw_ent a i d = .inl (.int, pw_len a, .inl d) := by
  have hne : ∀ b : Nat, pw_arr b = false → Nat.beq a b = false := fun b hb => by
    cases hab : Nat.beq a b with
    | false => rfl
    | true =>
      rw [Nat.eq_of_beq_eq_true hab, hb] at h
      cases h
  unfold pw_ent
  simp only [hne 50 rfl, hne 51 rfl, hne 52 rfl, hne 53 rfl, hne 54 rfl, hne 55 rfl, hne 56 rfl, hne 57 rfl, hne 58 rfl, hne 59 rfl, hne 60 rfl, hne 61 rfl, hne 41 rfl, hne 42 rfl, hne 43 rfl, hne 44 rfl, hne 45 rfl, hne 46 rfl, hne 47 rfl, hne 11 rfl]
def pw_W (q : Nat) (w : np_W) (S : pw_S) : Prop := w.1 = 65536 + q ∧ ∀ a i, pw_ok q a i = true → w.2 (pw_pl a i) = some (pw_ent a i (S a i))
theorem pw_blt {a b : Nat} (h : Nat.blt a b = true) : a < b := Nat.le_of_ble_eq_true h
theorem pw_cnts_le : ∀ a : Nat, pw_cnts.getD a 0 ≤ 435 := by
  intro a
  by_cases h : a < 62
  · exact (by decide +kernel : ∀ a : Fin 62, pw_cnts.getD a 0 ≤ 435) ⟨a, h⟩
  · rw [List.getD_eq_default _ _ (by show 62 ≤ a; omega)]
    omega
theorem pw_ok_lt {q a i : Nat} (h : pw_ok q a i = true) : (a < 62 ∧ i < 435) ∨ (a = 100 ∧ i = 0 ∧ 1 ≤ q) ∨ (a = 101 ∧ i = 0 ∧ 2 ≤ q) := by
  have h1 := pw_blt h
  unfold pw_cnt at h1
  split at h1
  · rename_i h2
    exact Or.inl ⟨pw_blt h2, Nat.lt_of_lt_of_le h1 (pw_cnts_le a)⟩
  · split at h1
    · rename_i h2
      have h2 := Nat.eq_of_beq_eq_true h2
      exact Or.inr (Or.inl ⟨h2, by omega, by omega⟩)
    · split at h1
      · rename_i h2
        have h2 := Nat.eq_of_beq_eq_true h2
        exact Or.inr (Or.inr ⟨h2, by omega, by omega⟩)
      · exact absurd h1 (Nat.not_lt_zero _)
theorem pw_pl_hi {a i : Nat} (h : 100 ≤ a) : pw_pl a i = 65436 + a := by
  unfold pw_pl
  rw [show Nat.blt a 62 = false from by
    cases hb : Nat.blt a 62 with
    | false => rfl
    | true => exact absurd (pw_blt hb) (by omega)]
set_option maxRecDepth 100000 in
theorem pw_pl_all : ((List.range 62).all fun a => (List.range (pw_cnts.getD a 0)).all fun i => Nat.beq (pw_inv.getD (pw_pl a i) 0) (1000 * a + i) && (Nat.blt 0 (pw_pl a i) && Nat.blt (pw_pl a i) 1501)) = true := by decide +kernel
theorem pw_pl_one {a i : Nat} (ha : a < 62) (hi : i < pw_cnts.getD a 0) : pw_inv.getD (pw_pl a i) 0 = 1000 * a + i ∧ 0 < pw_pl a i ∧ pw_pl a i < 1501 := by
  have h := List.all_eq_true.mp (List.all_eq_true.mp pw_pl_all a (List.mem_range.mpr ha)) i (List.mem_range.mpr hi)
  obtain ⟨h1, h2⟩ := Bool.and_eq_true_iff.mp h
  obtain ⟨h3, h4⟩ := Bool.and_eq_true_iff.mp h2
  exact ⟨Nat.eq_of_beq_eq_true h1, pw_blt h3, pw_blt h4⟩
theorem pw_ok_lo {q a i : Nat} (h : pw_ok q a i = true) (ha : a < 62) : i < pw_cnts.getD a 0 := by
  have h1 := pw_blt h
  unfold pw_cnt at h1
  rw [show Nat.blt a 62 = true from Nat.ble_eq_true_of_le ha] at h1
  exact h1
theorem pw_pl_lt {q a i : Nat} (h : pw_ok q a i = true) : 0 < pw_pl a i ∧ pw_pl a i < 65536 + q := by
  rcases pw_ok_lt h with ⟨h1, h2⟩ | ⟨rfl, rfl, h1⟩ | ⟨rfl, rfl, h1⟩
  · obtain ⟨-, h3, h4⟩ := pw_pl_one h1 (pw_ok_lo h h1)
    omega
  · rw [pw_pl_hi (by omega)]
    omega
  · rw [pw_pl_hi (by omega)]
    omega
theorem pw_pl_inj {q a i b j : Nat} (h : pw_ok q a i = true) (h' : pw_ok q b j = true) (e : pw_pl a i = pw_pl b j) : a = b ∧ i = j := by
  rcases pw_ok_lt h with ⟨h1, h2⟩ | ⟨rfl, rfl, h1⟩ | ⟨rfl, rfl, h1⟩ <;> rcases pw_ok_lt h' with ⟨h3, h4⟩ | ⟨rfl, rfl, h3⟩ | ⟨rfl, rfl, h3⟩
  · have e1 := (pw_pl_one h1 (pw_ok_lo h h1)).1
    have e2 := (pw_pl_one h3 (pw_ok_lo h' h3)).1
    rw [e, e2] at e1
    omega
  · have e1 := (pw_pl_one h1 (pw_ok_lo h h1)).2.2
    rw [e, pw_pl_hi (by omega)] at e1
    omega
  · have e1 := (pw_pl_one h1 (pw_ok_lo h h1)).2.2
    rw [e, pw_pl_hi (by omega)] at e1
    omega
  · have e1 := (pw_pl_one h3 (pw_ok_lo h' h3)).2.2
    rw [← e, pw_pl_hi (by omega)] at e1
    omega
  · exact ⟨rfl, rfl⟩
  · rw [pw_pl_hi (by omega), pw_pl_hi (by omega)] at e
    omega
  · have e1 := (pw_pl_one h3 (pw_ok_lo h' h3)).2.2
    rw [← e, pw_pl_hi (by omega)] at e1
    omega
  · rw [pw_pl_hi (by omega), pw_pl_hi (by omega)] at e
    omega
  · exact ⟨rfl, rfl⟩
theorem pw_W.g {q : Nat} {w : np_W} {S : pw_S} {a i : Nat} (h : pw_W q w S) (hok : pw_ok q a i = true) : w.2 (pw_pl a i) = some (pw_ent a i (S a i)) := h.2 a i hok
theorem pw_W.ga {q : Nat} {w : np_W} {S : pw_S} {a i : Nat} (h : pw_W q w S) (ha : pw_arr a = true) (hok : pw_ok q a i = true) : w.2 (pw_pl a i) = some (.inl (.int, pw_len a, .inl (S a i))) := by
  rw [h.2 a i hok, pw_ent_arr ha]
theorem pw_up_s (S : pw_S) (a i : Nat) (d : Nat → Int32) : pw_up S a i d a i = d := if_pos ⟨rfl, rfl⟩
theorem pw_up_n (S : pw_S) {a i b j : Nat} (d : Nat → Int32) (h : ¬ (b = a ∧ j = i)) : pw_up S a i d b j = S b j := if_neg h
theorem pw_wr {q n : Nat} {f : Nat → Option np_E} {S : pw_S} {a i : Nat} {d : Nat → Int32} {e : np_E} (hW : pw_W q (n, f) S) (hok : pw_ok q a i = true) (he : e = pw_ent a i d) {α : Type} {k : pw_S → pw_R α} {P : pw_S → α → Prop} {K : (Nat → Option np_E) → Prop} (h : pw_p (pw_l (pw_up S a i d) k) P) (H : ∀ S' f', pw_W q (n, f') S' → pw_p (k S') P → K f') : ∀ f', f' = np_up f (pw_pl a i) e → K f' := by
  intro f' hf
  refine H (pw_up S a i d) f' ⟨hW.1, fun b j hb => ?_⟩ h
  rw [hf]
  show np_up f (pw_pl a i) e (pw_pl b j) = _
  by_cases hbj : b = a ∧ j = i
  · obtain ⟨rfl, rfl⟩ := hbj
    rw [np_up_s, pw_up_s, he]
  · rw [np_up_n _ _ (fun z => hbj (pw_pl_inj hb hok z)), pw_up_n _ _ hbj]
    exact hW.2 b j hb
theorem pw_okl {q a b i : Nat} (h1 : Nat.blt a 62 = true) (h2 : Nat.blt b 62 = true) (h : Nat.ble (pw_cnt 0 a) (pw_cnt 0 b) = true) (hok : pw_ok q a i = true) : pw_ok q b i = true := by
  have h3 := pw_blt hok
  unfold pw_cnt at h3 h
  rw [h1] at h3 h
  rw [h2] at h
  refine Nat.ble_eq_true_of_le ?_
  unfold pw_cnt
  rw [h2]
  exact Nat.lt_of_lt_of_le h3 (Nat.le_of_ble_eq_true h)
theorem pw_okd {q a n : Nat} {x : Int32} (h1 : Nat.blt a 62 = true) (h0 : Nat.blt 0 n = true) (h : Nat.ble n (pw_cnt 0 a) = true) : pw_ok q a (pw_dn n x) = true := by
  refine Nat.ble_eq_true_of_le ?_
  have h2 := Nat.le_of_ble_eq_true h
  unfold pw_cnt at h2 ⊢
  rw [h1] at h2 ⊢
  exact Nat.lt_of_lt_of_le (Nat.mod_lt _ (pw_blt h0)) h2
theorem pw_okb {q a b n : Nat} {x : Int32} (h1 : Nat.blt a 62 = true) (h0 : Nat.blt 0 n = true) (h : Nat.ble (b + n) (pw_cnt 0 a) = true) : pw_ok q a (b + pw_dn n x) = true := by
  refine Nat.ble_eq_true_of_le ?_
  have h2 := Nat.le_of_ble_eq_true h
  have h3 : pw_dn n x < n := Nat.mod_lt _ (pw_blt h0)
  unfold pw_cnt at h2 ⊢
  rw [h1] at h2 ⊢
  dsimp only at h2 ⊢
  show b + pw_dn n x < _
  omega
theorem pw_dn_of {q a n i : Nat} (h1 : Nat.blt a 62 = true) (h : Nat.beq n (pw_cnt 0 a) = true) (hok : pw_ok q a i = true) : pw_dn n (Int32.ofNat i) = i ∧ ¬ Int32.ofNat i < 0 := by
  have h2 := Nat.eq_of_beq_eq_true h
  have h3 := pw_blt hok
  have h4 : i < 435 := by
    rcases pw_ok_lt hok with h5 | h5 | h5
    · exact h5.2
    · omega
    · omega
  unfold pw_cnt at h2 h3
  rw [h1] at h2 h3
  dsimp only at h2 h3
  have h6 : (Int32.ofNat i).toInt = i := Int32.toInt_ofNat_of_lt (by omega)
  refine ⟨?_, ?_⟩
  · unfold pw_dn
    rw [show (Int32.ofNat i).toNatClampNeg = i from by show (Int32.ofNat i).toInt.toNat = i; omega, h2]
    exact Nat.mod_eq_of_lt h3
  · rw [Int32.lt_iff_toInt_lt, h6]
    show ¬ (i : Int) < 0
    omega
/-! driving a mirrored program beside the machine -/
theorem pw_br {c : Prop} {i1 i2 : Decidable c} {α : Type} {x y : pw_R α} {P : pw_S → α → Prop} {A B : Prop} (h : pw_p (@ite _ c i2 x y) P) (h1 : c → pw_p x P → A) (h2 : ¬ c → pw_p y P → B) : np_br (@decide c i1) A B := by
  by_cases hc : c
  · rw [if_pos hc] at h
    rw [@decide_eq_true c i1 hc]
    exact h1 hc h
  · rw [if_neg hc] at h
    rw [@decide_eq_false c i1 hc]
    exact h2 hc h
theorem pw_ck {b : Bool} {α : Type} {o : pw_R α} {P : pw_S → α → Prop} {K : Prop} (h : pw_p (pw_c b o) P) (k : b = true → pw_p o P → K) : np_chk b K := by
  cases b
  · exact h.elim
  · exact k rfl h
theorem pw_ck1 {b : Bool} {α : Type} {o : pw_R α} {P : pw_S → α → Prop} (h : pw_p (pw_c b o) P) : b = true ∧ pw_p o P := by
  cases b
  · exact h.elim
  · exact ⟨rfl, h⟩
theorem pw_bd {α β : Type} {o : pw_R α} {k : pw_S → α → pw_R β} {P : pw_S → β → Prop} {R : pw_S → α → Prop} (h : pw_p (pw_b o k) P) (H : ∀ s r, pw_p (k s r) P → R s r) : pw_p o R := by
  cases o with
  | none => exact h
  | some q => exact H q.1 q.2 h
theorem pw_st {σ α : Type} {x : σ} {k : σ → pw_R α} {P : pw_S → α → Prop} {K : σ → Prop} (h : pw_p (pw_l x k) P) (H : ∀ y, pw_p (k y) P → K y) : ∀ y, y = x → K y := fun y e => by
  subst e
  exact H y h
theorem pw_on {α : Type} {a : pw_R α} {b : Nat → pw_R α} {P : pw_S → α → Prop} (h : pw_p (pw_o none a b) P) : pw_p a P := h
theorem pw_os {α : Type} {i : Nat} {a : pw_R α} {b : Nat → pw_R α} {P : pw_S → α → Prop} (h : pw_p (pw_o (some i) a b) P) : pw_p (b i) P := h
theorem pw_ei {α β : Type} {v : α} {a : α → pw_R β} {b : Nat → pw_R β} {P : pw_S → β → Prop} (h : pw_p (pw_e (.inl v) a b) P) : pw_p (a v) P := h
theorem pw_ee {α β : Type} {e : Nat} {a : α → pw_R β} {b : Nat → pw_R β} {P : pw_S → β → Prop} (h : pw_p (pw_e (.inr e) a b) P) : pw_p (b e) P := h
/-! the operations that look at worlds, with their reads and writes set apart -/
def np_rd (o : Option np_E) (k : np_E → Prop) : Prop := match o with
  | none => False
  | some e => k e
theorem np_rd_i {o : Option np_E} {e : np_E} {k : np_E → Prop} (h : o = some e) (hk : k e) : np_rd o k := by
  rw [h]
  exact hk
theorem np_rd_e {o : Option np_E} {k : np_E → Prop} (h : np_rd o k) : ∃ e, o = some e ∧ k e := by
  cases o with
  | none => exact h.elim
  | some e => exact ⟨e, rfl, h⟩
def nw_ist (len i : Nat) : np_Op := fun k pc L st w ce sl => match st with
  | .int x :: r => ∀ y, y = x → k (pc + len) (np_st1 L i (.int y)) r w ce sl
  | _ => False
theorem nw_ist_le {len i : Nat} : ∀ k pc L st w ce sl, nw_ist len i k pc L st w ce sl → np_ist len i k pc L st w ce sl := by
  intro k pc L st w ce sl h
  unfold nw_ist at h
  unfold np_ist
  split at h
  · exact h _ rfl
  · exact h.elim
def nw_iinc (i : Nat) (n : Int) : np_Op := fun k pc L st w ce sl => match np_lk L i with
  | some (.int x) => ∀ y, y = x + Int32.ofInt n → k (pc + 3) (np_st1 L i (.int y)) st w ce sl
  | _ => False
theorem nw_iinc_le {i : Nat} {n : Int} : ∀ k pc L st w ce sl, nw_iinc i n k pc L st w ce sl → np_iinc i n k pc L st w ce sl := by
  intro k pc L st w ce sl h
  unfold nw_iinc at h
  unfold np_iinc
  split at h
  · rename_i x hx
    simp only [hx]
    exact h _ rfl
  · exact h.elim
