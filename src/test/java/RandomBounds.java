/** Queries near the bounds of LABOUR, PLACES, CAPSULES, cells, KEPT, VARS and ways. */
final class RandomBounds extends RandomTexts {
    static final String MORE = """
            cnt :: Int -> Int
            cnt n = if n <= 0 then 0 else cnt (n - 1)
            cp :: Int -> [Int]
            cp n = if n <= 0 then set cnt 1 else set nx n
            nx :: Int -> Int
            nx n = hd (cp (n - 1))
            dif :: Int -> Bool
            dif n = if n <= 0 then True else differ [n, 1000] & dif (n - 1)
            vars :: Int -> [Int]
            vars n = if n <= 0 then [] else x : vars (n - 1) where {x free}
            spans :: [Int] -> Int -> Bool
            spans [] _ = True
            spans (x:xs) k = span x 1 k & spans xs k
            ones :: Int -> [Int]
            ones n = if n <= 0 then [] else 1 : ones (n - 1)
            co :: Int -> Int
            co n = if n <= 0 then 0 else coin + co (n - 1)
            ch :: Int -> Int
            ch n = if n <= 0 then 0 else (cnt n ? ch (n - 1))
            many :: Int -> Int
            many n = if n <= 0 then 0 else n ? many (n - 1)
            fl :: Int -> Int
            fl n = if n <= 0 then 0 else failed ? fl (n - 1)
            kp :: [Int] -> Int -> Bool
            kp xs n = if n <= 0 then True else (if n `mod` 2 == 0 then differ xs else atMost (ones (len xs)) xs 100) & kp xs (n - 1)
            ways :: Int -> Int -> Int -> [Int]
            ways n k s = (spans xs k & equalTo (ones n) xs s & label xs) &> xs where {xs = vars n}
            wy :: Int -> Int -> [Int]
            wy n k = (spans xs k & label xs) &> xs where {xs = vars n}
            """;

    RandomBounds(long seed) {
        super(seed);
    }

    /** At a bound, or up to three on either side of it. */
    private int near(int bound) {
        return Math.max(0, bound + upTo(7) - 3);
    }

    private int upToNear(int bound) {
        return upTo(3) == 0 ? near(bound) : upTo(2 * bound + 1);
    }

    /** A Bool that costs much. */
    private String dear() {
        switch (upTo(12)) {
            case 0: return "cnt " + upToNear(570) + " == 0";
            case 1: return "hd (set cnt " + upToNear(280) + ") == 0";
            case 2: return "len (take " + upToNear(100) + " (from 0)) >= 0";
            case 3: return "len (set many " + upToNear(60) + ") > 0";
            case 4: return "dif " + near(one(60, 30));
            case 5: return "len (set co " + upTo(9) + ") > 0";
            case 6: return "hd (cp " + upTo(14) + ") == 0";
            case 7: return "len (hd (set wy " + upTo(4) + " " + upTo(6) + ")) >= 0";
            case 8: return "kp (ones 1) " + near(one(60, 30));
            case 9: return "hd (set dif " + near(one(60, 30)) + ")";
            case 10: return "spans (vars " + near(8) + ") 2";
            default: return "atMost (ones " + near(32) + ") (take " + near(32) + " (from 0)) " + upTo(600);
        }
    }

    private int one(int first, int second) {
        return upTo(2) == 0 ? first : second;
    }

    private String expr() {
        switch (upTo(22)) {
            case 0: return "many " + upToNear(500);
            case 1: return "co " + (7 + upTo(5));
            case 2: return "ch " + upTo(80);
            case 3: return "ways " + upTo(5) + " " + (1 + upTo(5)) + " " + upTo(12);
            case 4: return "wy " + near(8) + " " + (1 + upTo(2));
            case 5: return "wy 1 " + near(200);
            case 6: return "wy 2 " + (12 + upTo(5));
            case 7: return "set wy 2 " + (12 + upTo(5));
            case 8: return "Z ? nat (many 2)";
            case 9: return "perm (take " + upTo(6) + " (from 0))";
            case 10: return "fl " + upToNear(500);
            case 11: return "set many " + upToNear(150);
            case 12: return "set fl " + upToNear(300);
            case 13: return "vars " + near(30);
            case 14: return "label (take " + near(32) + " (from 0))";
            case 15: return "set cnt (many " + upTo(40) + ")";
            case 16: return "cp " + near(12);
            case 17: return "(cnt (many " + upTo(60) + "), co " + upTo(8) + ")";
            case 18: return "many 4 + (many 4 + (many 4 + (many 4 + many " + upTo(6) + ")))";
            case 19: return "(many 12, (cnt " + upToNear(200) + ", many 90))";
            case 20: return "kp (vars 2) " + near(60);
            default: return "set perm (take " + upTo(6) + " (from 0))";
        }
    }

    String bounded() {
        StringBuilder text = new StringBuilder();
        int count = upTo(4);
        for (int i = 0; i < count; i++) {
            text.append(i == 0 ? "((" : " & (").append(dear()).append(upTo(5) == 0 ? " ? " + dear() : "").append(")");
        }
        text.append(count > 0 ? ") &> " : "").append('(').append(expr()).append(upTo(4) == 0 ? "," + expr() : "").append(')');
        return text + " where {x, y free; z free}";
    }
}
