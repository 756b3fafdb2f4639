import java.util.List;
import java.util.function.ToLongFunction;

/**
 * The boundary cases that the document's sentences name, a test of its own for each: the sentence stands
 * above it. Which call refuses what, in which order, and that it changes nothing then, is RefusalTest's.
 */
public final class BoundaryTest {
    private static final int UNKNOWN = -1, OUTSIDE = -2, STATE = -3, FULL = -4, NONE = -9;
    private static final int NULL = -11, CAST = -12, INDEX = -13, SIZE = -14;
    private static final int MIN = Integer.MIN_VALUE, MAX = Integer.MAX_VALUE;
    private static final String SIX = "l34;c123y;r456n;m789y;c912n;r305y;m100n";

    private static int wrong = 0;
    private static String part = "";

    public static void main(String[] args) {
        terms();
        text();
        slips();
        draws();
        toldDraws();
        tickets();
        geese();
        readings();
        whatCanBe();
        sheets();
        bodies();
        counters();
        questions();
        System.out.println(wrong == 0 ? "all boundaries hold" : wrong + " answers are not as due");
        if (wrong != 0) System.exit(1);
    }

    private static void run(String name, Runnable test) {
        part = name;
        test.run();
    }

    private static void due(String call, long got, long want) {
        if (got != want) {
            wrong++;
            System.out.println(part + ": " + call + " answered " + got + ", due is " + want);
        }
    }

    private static void share(String call, long upper, long lower, long wantUpper, long wantLower) {
        due(call + ", upper", upper, wantUpper);
        due(call + ", lower", lower, wantLower);
    }

    private static void rules(LoserDraws x, int c, long upper, long lower) {
        share("rules(" + c + ")", x.rules(c, 0), x.rules(c, 1), upper, lower);
    }

    private static void just(LoserDraws x, int set, long upper, long lower) {
        share("just(" + set + ")", x.just(set, 0), x.just(set, 1), upper, lower);
    }

    private static void mean(LoserDraws x, long upper, long lower) {
        share("mean", x.mean(0), x.mean(1), upper, lower);
    }

    private static void passes(LoserDraws x, long upper, long lower) {
        share("passes", x.passes(0), x.passes(1), upper, lower);
    }

    private static void write(LoserDraws x, int sheet, int i, String codes) {
        for (int p = 0; p < codes.length(); p++) x.put(sheet, i + p, codes.charAt(p));
    }

    private static int tell(LoserDraws x, String codes) {
        x.sheet(0, 0, codes.length());
        write(x, 0, 0, codes);
        return x.republic(0, 0, 0, codes.length());
    }

    private static LoserDraws of(String codes) {
        LoserDraws x = new LoserDraws();
        due("republic of " + codes, tell(x, codes), (codes.length() - 3) / 6);
        return x;
    }

    private static int told(String codes) {
        return tell(new LoserDraws(), codes);
    }

    /** SHEET 1 becomes a row of ints. */
    private static void row(LoserDraws x, int... numbers) {
        x.sheet(1, 2, numbers.length);
        for (int i = 0; i < numbers.length; i++) x.put(1, i, numbers[i]);
    }

    /** A told DRAW: who RULES, its FIRST WRONG, whether the law PASSES. */
    private static void draw(LoserDraws x, int rulers, int firstWrong, int passes, int... slips) {
        row(x, slips);
        due("draw, who RULES", x.draw(1, 2, 0, slips.length, 0), rulers);
        due("draw, FIRST WRONG", x.draw(1, 2, 0, slips.length, 1), firstWrong);
        due("draw, PASSES", x.draw(1, 2, 0, slips.length, 2), passes);
    }

    private static void read(LoserDraws x, int... sets) {
        x.back(x.many(4));
        for (int k = 0; k < sets.length; k++) due("reading(" + sets[k] + ")", x.reading(sets[k]), k);
    }

    // ==== Terms

    private static void terms() {
        // "NONE is -9"
        run("NONE", () -> {
            due("NONE", LoserDraws.NONE, -9);
            due("least of nobody", of("l01;c100n;c100n;c100n").least(1), -9);
        });
        // "INDEX (of cells from i on also where i is not 0 .. how many there are, if none of them is taken, too)"
        run("INDEX where no cell is taken", () -> {
            LoserDraws x = of("l01;c100y");
            row(x, 7, 7, 7);
            for (int i = 0; i <= 3; i++) due("republic of none at " + i, x.republic(1, 2, i, 0), -100);
            for (int i = 0; i <= 3; i++) due("draw of none at " + i, x.draw(1, 2, i, 0, 0), 1);
            for (int i = 0; i <= 3; i++) due("copy of none to " + i, x.copy(1, 3 - i, 1, i, 0), 0);
            for (int i : new int[] {MIN, -1, 4, 60, 61, MAX}) {
                due("republic of none at " + i, x.republic(1, 2, i, 0), INDEX);
                due("draw of none at " + i, x.draw(1, 2, i, 0, 0), INDEX);
                due("copy of none from " + i, x.copy(1, i, 1, 0, 0), INDEX);
                due("copy of none to " + i, x.copy(1, 0, 1, i, 0), INDEX);
                due("fault()", x.fault(), 3);
            }
            x.sheet(2, 0, 0);
            due("an empty row has 0 .. 0", x.republic(2, 0, 0, 0), -100);
            due("and no more", x.republic(2, 0, 1, 0), INDEX);
            due("nor a cell", x.draw(2, 0, 0, 1, 0), INDEX);
        });
        // INDEX: i and n whose sum wraps around are beyond, too
        run("INDEX of a sum that wraps", () -> {
            LoserDraws x = of("l01;c100y");
            row(x, 0, 0, 0);
            due("republic(3, MAX)", x.republic(1, 2, 3, MAX), INDEX);
            due("republic(MAX, MAX)", x.republic(1, 2, MAX, MAX), INDEX);
            due("draw(MAX, 20)", x.draw(1, 2, MAX, 20, 0), INDEX);
            due("copy(3, 3, MAX)", x.copy(1, 3, 1, 3, MAX), INDEX);
            due("copy(MAX, 0, 1)", x.copy(1, MAX, 1, 0, 1), INDEX);
            due("copy(0, MAX, 1)", x.copy(1, 0, 1, MAX, 1), INDEX);
        });
        // "Sets are told as bits (bit k for number k)"
        run("sets", () -> {
            LoserDraws x = of("l11;c100y;c100y;c100y;c100y;c100y;c100y");
            for (int c = 0; c < 6; c++) draw(x, 63 - (1 << c), NONE, 1, c);
            for (int c = 0; c < 6; c++) just(x, 63 - (1 << c), 1, 6);
            for (int set : new int[] {0, 1, 31 - 1, 63}) just(x, set, 0, 1);
            due("just(64)", x.just(64, 0), LoserDraws.LOST);
            due("tickets from bit 1 to bit 9", x.tickets(5), 0b1111111110);
            due("kinds from bit 0 to bit 2", x.kinds(5), 0b111);
            due("counts from bit 0 to bit 6", x.counts(), 0b1111111);
        });
        // "Shares are told as upper and lower number (above 0) in least terms"
        run("shares", () -> {
            LoserDraws x = of("l21;c200y;c200n");
            rules(x, 0, 1, 6);
            just(x, 0, 2, 3);
            just(x, 3, 0, 1);
            mean(x, 1, 3);
            x.drawn(1);
            rules(x, 0, 1, 2);
            mean(x, 1, 1);
            x.drawn(0);
            rules(x, 0, 1, 1);
            just(x, 0, 0, 1);
            mean(x, 2, 1);
            passes(x, 0, 1);
        });
        // The largest drum: six MISERS of nine TICKETS, 6 out of 120.
        run("the largest shares", () -> {
            LoserDraws x = of("l69;m999y;m999y;m999y;m999n;m999n;m999n");
            due("SLIPS", x.many(1), 120);
            just(x, 0, 3200000, 182637273);
            rules(x, 5, 2838220, 8697013);
            mean(x, 17029320, 8697013);
        });
    }

    // ==== 1, promise 2

    private static boolean canStand(int place, int code) {
        if (place == 0) return code == 108;
        if (place == 1) return code >= 48 && code <= 54;
        if (place == 2) return code >= 49 && code <= 57;
        switch ((place - 3) % 6) {
            case 0: return code == 59;
            case 1: return code == 99 || code == 114 || code == 109;
            case 2: return code >= 49 && code <= 57;
            case 5: return code == 121 || code == 110;
            default: return code >= 48 && code <= 57;
        }
    }

    private static void text() {
        // "FIRST FAULT: the place (from 0 on) of the first code with which no TEXT goes on", each code at each place
        run("each code", () -> {
            for (int place = 0; place < 39; place++) {
                LoserDraws x = null;
                for (int code = -128; code < 128; code++) {
                    if (code % 128 == 0) {
                        x = new LoserDraws();
                        x.sheet(0, 0, 39);
                        write(x, 0, 0, SIX);
                    }
                    x.put(0, place, code);
                    due("code " + code + " at " + place, x.republic(0, 0, 0, 39), canStand(place, code) ? 6 : -100 - place);
                }
            }
        });
        // "how many codes there are, if it just ends too soon"; "1 to 6 CITIZENS"
        run("each length", () -> {
            for (int n = 0; n <= 39; n++) {
                boolean whole = n >= 9 && n % 6 == 3;
                due("the first " + n + " codes", told(SIX.substring(0, n)), whole ? n / 6 : -100 - n);
            }
        });
        // "(the ; of a seventh CITIZEN)"
        run("a seventh CITIZEN", () -> {
            due("its ;", told(SIX + ";"), -139);
            due("all of it", told(SIX + ";c100y"), -139);
            due("another code", told(SIX + "l"), -139);
            due("a wrong code ahead of it", told(SIX.replace("m100n", "m100N") + ";c100y"), -138);
            due("up to 60 codes", told(SIX + ";c100y;c100y;c100y;c1"), -139);
        });
        // "the first code", of several
        run("the first of several", () -> {
            due("two wrong ones", told("l71;x100y"), -101);
            due("wrong, and ends too soon", told("l1x;c"), -102);
            due("wrong as the last one", told("l11;c10x"), -107);
            due("wrong behind a whole one", told("l11;c100y,"), -109);
            due("all are wrong", told("xxxxxxxxx"), -100);
        });
        // "a digit 0 .. 6 (DRAWN), a digit 1 .. 9 (PRICE)"
        run("the head", () -> {
            for (int d = 0; d <= 6; d++) due("DRAWN " + d, of("l" + d + "1;c100y").many(2), d);
            for (int p = 1; p <= 9; p++) due("PRICE " + p, of("l0" + p + ";c100y").many(3), p);
            due("DRAWN 7", told("l71;c100y"), -101);
            due("PRICE 0", told("l60;c100y"), -102);
        });
        // "a digit 1 .. 9 (TICKETS), two digits 00 .. 99 (GEESE), y or n"
        run("a CITIZEN's numbers", () -> {
            for (int t = 1; t <= 9; t++) due("TICKETS " + t, of("l01;c" + t + "00y").ofCitizen(0, 1), t);
            due("TICKETS 0", told("l01;c000y"), -105);
            for (String g : new String[] {"00", "01", "09", "10", "90", "99"}) {
                due("GEESE " + g, of("l01;c1" + g + "y").ofCitizen(0, 2), Integer.parseInt(g));
            }
            due("y", of("l01;c100y").ofCitizen(0, 3), 1);
            due("n", of("l01;c100n").ofCitizen(0, 3), 0);
            due("Y", told("l01;c100Y"), -108);
        });
        // "A REPUBLIC by a TEXT of n cells of a SHEET from i on"
        run("where it stands", () -> {
            LoserDraws x = new LoserDraws();
            x.sheet(3, 1, 60);
            write(x, 3, 21, SIX);
            due("up to the last cell", x.republic(3, 1, 21, 39), 6);
            due("one cell further", x.republic(3, 1, 22, 39), INDEX);
            due("one cell more", x.republic(3, 1, 21, 40), INDEX);
            due("what stands behind is not looked at", x.republic(3, 1, 21, 9), 1);
            due("places count from i on", x.republic(3, 1, 20, 40), -100);
            due("too soon counts from i on", x.republic(3, 1, 21, 38), -138);
            due("the middle of it", x.republic(3, 1, 24, 6), -100);
        });
        // "taken as a row of a LANE": codes are the cells' numbers, whatever their LANE
        run("codes of each LANE", () -> {
            int[][] added = {{256, 6}, {65536, 6}, {0, 6}, {256, -100}, {65536, 6}, {0, 6}, {256, -100}, {65536, -100}, {0, 6}};
            for (int k = 0; k < 9; k++) {
                LoserDraws x = new LoserDraws();
                x.sheet(0, k / 3, 39);
                write(x, 0, 0, SIX);
                x.put(0, 0, 108 + added[k][0]);
                due("LANE " + k / 3 + ", l and " + added[k][0], x.republic(0, k / 3, 0, 39), added[k][1]);
            }
        });
        // "A TEXT that is taken makes all anew: no READINGS"
        run("all anew", () -> {
            LoserDraws x = of(SIX);
            x.drawn(0);
            x.price(9);
            x.wish(0, false);
            for (int k = 0; k < 8; k++) x.reading(k);
            due("the same again", x.republic(0, 0, 0, 39), 6);
            due("READINGS", x.many(4), 0);
            due("DRAWN", x.many(2), 3);
            due("PRICE", x.many(3), 4);
            due("WISHES", x.ofCitizen(0, 3), 1);
            due("counts", x.counts(), 127);
            due("the first READING is number 0", x.reading(63), 0);
            due("fewer CITIZENS", x.republic(0, 0, 0, 9), 1);
            due("others are gone", x.ofCitizen(1, 1), UNKNOWN);
            due("SLIPS", x.many(1), 1);
            due("their sets, too", x.reading(2), OUTSIDE);
        });
        // "-100 less the FIRST FAULT" changes nothing
        run("a TEXT that is not taken", () -> {
            LoserDraws x = of("l21;c100y;c200n");
            x.reading(1);
            due("a wrong end", tell(x, SIX.substring(0, 38) + "?"), -138);
            due("CITIZENS", x.many(0), 2);
            due("SLIPS", x.many(1), 3);
            due("DRAWN", x.many(2), 2);
            due("PRICE", x.many(3), 1);
            due("READINGS", x.many(4), 1);
        });
    }

    // "SLIPS in the drum: a CITIZEN as many as TICKETS; a RICH one 1 more; a MISER twice what a RICH one has"
    private static void slips() {
        run("SLIPS", () -> {
            LoserDraws x = of("l01;c100y;c900y;r100y;r900y;m100y;m900y");
            int[] slips = {1, 9, 2, 10, 4, 20};
            int first = 0;
            for (int c = 0; c < 6; c++) {
                due("SLIPS of " + c, x.ofCitizen(c, 4), slips[c]);
                due("first SLIP of " + c, x.ofCitizen(c, 5), first);
                draw(x, 63 - (1 << c), NONE, 1, first);
                first += slips[c];
                draw(x, 63 - (1 << c), NONE, 1, first - 1);
            }
            due("SLIPS in all", x.many(1), first);
            draw(x, -100, 0, -100, first);
        });
    }

    // ==== 2, promises 8 to 11

    private static void draws() {
        // "(all of them, if there are fewer)"
        run("fewer SLIPS than DRAWN", () -> {
            LoserDraws x = of("l61;c200y;c100y");
            for (int d = 3; d <= 6; d++) {
                x.drawn(d);
                rules(x, 0, 0, 1);
                rules(x, 1, 0, 1);
                just(x, 0, 1, 1);
                just(x, 3, 0, 1);
                mean(x, 0, 1);
                passes(x, 0, 1);
            }
        });
        run("one SLIP fewer than all", () -> {
            LoserDraws x = of("l21;c200y;c100y");
            // 01 02 12: 1 RULES by the first alone, 0 never.
            rules(x, 0, 0, 1);
            rules(x, 1, 1, 3);
            just(x, 0, 2, 3);
            just(x, 2, 1, 3);
            mean(x, 1, 3);
            passes(x, 1, 3);
        });
        // "Who has one of them is FREE; all others RULE", of no SLIP
        run("none is DRAWN", () -> {
            LoserDraws x = of("l01;c900y;m900n;r900y");
            for (int c = 0; c < 3; c++) rules(x, c, 1, 1);
            for (int set = 0; set < 7; set++) just(x, set, 0, 1);
            just(x, 7, 1, 1);
            mean(x, 3, 1);
            passes(x, 1, 1);
        });
        run("but one CITIZEN", () -> {
            LoserDraws x = of("l11;c100y");
            rules(x, 0, 0, 1);
            just(x, 0, 1, 1);
            just(x, 1, 0, 1);
            mean(x, 0, 1);
            passes(x, 0, 1);
            x.drawn(0);
            rules(x, 0, 1, 1);
            passes(x, 1, 1);
        });
        // "The law PASSES, if more of those who RULE WISH it than do not": as many are not more, nobody neither
        run("as many", () -> {
            passes(of("l01;c100y;c100n"), 0, 1);
            passes(of("l01;c100y;c100n;c100y"), 1, 1);
            passes(of("l01;c100n"), 0, 1);
            passes(of("l11;c100y;c100n"), 1, 2);
            passes(of("l11;c100y;c100y;c100n"), 1, 3);
            passes(of("l01;c100y;c100y;c100y;c100n;c100n;c100n"), 0, 1);
        });
        // A CITIZEN with fewer SLIPS than are DRAWN can't have them all.
        run("sets that can't be", () -> {
            LoserDraws x = of("l31;c200y;c100y;c900y");
            just(x, 6, 0, 1);
            just(x, 4, 1, 220);
            just(x, 7, 0, 1);
            just(x, 3, 21, 55);
        });
    }

    // ==== 2, promise 7

    private static void toldDraws() {
        // "FIRST WRONG: the first that there is not"
        run("a SLIP that there is not", () -> {
            LoserDraws x = of("l21;c200y;r100n");
            draw(x, 1, NONE, 1, 3);
            draw(x, -100, 0, -100, 4);
            draw(x, -100, 0, -100, -1);
            draw(x, -101, 1, -101, 0, MAX);
            draw(x, -102, 2, -102, 0, 1, MIN);
        });
        // "or that was drawn ahead"
        run("a SLIP that was drawn ahead", () -> {
            LoserDraws x = of("l21;c200y;r100n");
            draw(x, -101, 1, -101, 0, 0);
            draw(x, -102, 2, -102, 3, 0, 3);
            draw(x, 2, NONE, 0, 1, 0);
            draw(x, 0, NONE, 0, 3, 2, 1, 0);
            draw(x, -104, 4, -104, 3, 2, 1, 0, 3);
        });
        // "the first", of several; NONE
        run("the first of several", () -> {
            LoserDraws x = of("l21;c200y;r100n");
            draw(x, -101, 1, -101, 1, 4, 1);
            draw(x, -101, 1, -101, 1, 1, 4);
            draw(x, 3, NONE, 0);
        });
        // "n (0 .. 20)"
        run("20 cells at most", () -> {
            LoserDraws x = of("l01;m900n;c100y");
            int[] slips = new int[21];
            for (int i = 0; i < 21; i++) slips[i] = 20 - i;
            row(x, slips);
            due("20, who RULES", x.draw(1, 2, 0, 20, 0), 0);
            due("20 from 1 on", x.draw(1, 2, 1, 20, 0), 2);
            due("20 from 1 on, PASSES", x.draw(1, 2, 1, 20, 2), 1);
            due("21", x.draw(1, 2, 0, 21, 0), OUTSIDE);
            due("-1 is no SIZE", x.draw(1, 2, 0, -1, 0), OUTSIDE);
            due("fault()", x.fault(), 0);
            due("20 from 2 on", x.draw(1, 2, 2, 20, 0), INDEX);
            x.put(1, 19, 20);
            due("the last is wrong", x.draw(1, 2, 0, 20, 1), 19);
            due("the last is wrong", x.draw(1, 2, 0, 20, 0), -119);
            due("what is ahead of i is no matter", x.draw(1, 2, 1, 19, 1), NONE);
        });
        // A DRAW that is told has as many SLIPS as it has, whatever DRAWN is.
        run("DRAWN is no matter", () -> {
            for (int d = 0; d <= 6; d += 3) {
                LoserDraws x = of("l" + d + "1;c100y;c100y;c100n");
                draw(x, 7, NONE, 1);
                draw(x, 5, NONE, 0, 1);
                draw(x, 0, NONE, 0, 0, 1, 2);
                due("DRAWN", x.many(2), d);
            }
        });
        // "as a row of a LANE": numbers below 0 stay below 0
        run("cut SLIPS", () -> {
            LoserDraws x = of("l01;m900n;c100y");
            x.sheet(2, 0, 1);
            x.put(2, 0, 256 + 20);
            due("bytes are cut", x.draw(2, 0, 0, 1, 0), 1);
            x.put(2, 0, 255);
            due("to numbers below 0", x.draw(2, 0, 0, 1, 0), -100);
            x.sheet(2, 1, 1);
            x.put(2, 0, 256 + 20);
            due("shorts are not, yet", x.draw(2, 1, 0, 1, 0), -100);
            x.put(2, 0, 65536 + 20);
            due("shorts are cut, too", x.draw(2, 1, 0, 1, 0), 1);
        });
    }

    // ==== 3, promises 12, 13

    private static void tickets() {
        // "the fewest TICKETS more (0 to 20"
        run("BUY 0 to 20", () -> {
            // 1 out of 10 now; by 20 more 21 out of 30, by 21 more 22 out of 31.
            LoserDraws x = of("l11;c199y;c900n");
            due("0 are enough", x.buy(0, 1, 10), 0);
            due("0 are just not", x.buy(0, 101, 999), 1);
            due("20", x.buy(0, 21, 30), 20);
            due("just below what 20 give", x.buy(0, 699, 999), 20);
            due("just above what 20 give", x.buy(0, 701, 999), NONE);
            due("what 21 would give", x.buy(0, 22, 31), NONE);
            due("each below", x.buy(0, 20, 29), 19);
        });
        // "at their PRICE, for the GEESE they have"
        run("BUY for GEESE", () -> {
            // By 4 more 5 out of 6.
            LoserDraws x = of("l19;c136y;c100n");
            due("just enough", x.buy(0, 5, 6), 4);
            due("one more", x.buy(0, 6, 7), NONE);
            due("one GOOSE short", of("l19;c135y;c100n").buy(0, 5, 6), NONE);
            due("by three, though", of("l19;c135y;c100n").buy(0, 4, 5), 3);
            due("without GEESE", of("l11;c100y;c100n").buy(0, 2, 3), NONE);
            due("without GEESE, none needed", of("l11;c100y;c100n").buy(0, 1, 2), 0);
            x.price(1);
            due("at a lower PRICE", x.buy(0, 21, 22), 20);
            due("99 GEESE at 5", of("l15;c199y;c100n").buy(0, 20, 21), 19);
            due("99 GEESE at 5, 20", of("l15;c199y;c100n").buy(0, 21, 22), NONE);
        });
        // "of any kind: each makes 1 SLIP more"
        run("BUY of any kind", () -> {
            due("a RICH", of("l11;r199y;c100n").buy(0, 3, 4), 1);
            due("a MISER", of("l11;m199y;c100n").buy(0, 5, 6), 1);
        });
        // "a likelihood of these two numbers at least (upper by lower)"
        run("BUY as surely", () -> {
            LoserDraws x = of("l21;c199y;c100n;c100n");
            due("never: 0", x.buy(0, 0, 1), 0);
            due("for sure", x.buy(0, 1, 1), NONE);
            due("more than for sure", x.buy(0, 999, 998), NONE);
            due("999 by 1", x.buy(0, 999, 1), NONE);
            x.drawn(3);
            due("for sure", x.buy(0, 1, 1), 0);
            due("for sure, not in least terms", x.buy(0, 999, 999), 0);
            x.drawn(0);
            due("nobody is FREE", x.buy(0, 1, 999), NONE);
            due("nobody need be", x.buy(0, 0, 999), 0);
            LoserDraws y = of("l61;c199y;c100n");
            due("all come", y.buy(0, 1, 1), 0);
            due("more than all", y.buy(1, 1, 1), 0);
        });
        // As long as the others have as many SLIPS as are DRAWN, no TICKETS make it sure.
        run("BUY for sure", () -> {
            due("the others have fewer", of("l31;c199y;c200n").buy(0, 1, 1), 0);
            due("the others have as many", of("l21;c200y;c199n").buy(1, 1, 1), NONE);
        });
        // "(they must have 2 at least)"
        run("LEND one of two", () -> {
            LoserDraws x = of("l11;c100y;c200y;r100y;m100y;r200y;m200y");
            for (int c = 0; c < 6; c++) {
                boolean one = x.ofCitizen(c, 1) == 1;
                due("lend(" + c + ")", x.lend(c), one ? STATE : NONE);
            }
        });
        // "goes to another one": there is none; "NONE: by none likelier than now"
        run("LEND to nobody", () -> {
            due("alone", of("l11;c900y").lend(0), NONE);
            due("alone, none DRAWN", of("l01;c900n").lend(0), NONE);
            due("it PASSES for sure", of("l01;c900y;c900y").lend(0), NONE);
            due("it can't", of("l21;c900n;c900n").lend(0), NONE);
            // It PASSES if 1 is drawn: by 1 out of 9 now, by 2 out of 9 then.
            due("to the other one", of("l11;c800y;c100n").lend(0), 1);
            due("not back", of("l11;c800y;c200n").lend(1), NONE);
        });
        // "of several the least"
        run("LEND to the least", () -> {
            due("1 of 1, 2, 3", of("l11;c900y;c100n;c100n;c100n").lend(0), NONE);
            due("1 of 1, 2", of("l11;c900y;c100n;c100n;c100y").lend(0), 1);
            due("0 of 0, 1", of("l11;c100n;c100n;c900y;c100y").lend(2), 0);
            due("the later one, likelier", of("l11;c900y;c100n;m100n;c100y").lend(0), 2);
            due("the earlier one, likelier", of("l11;c900y;m100n;c100n;c100y").lend(0), 1);
        });
        // "(SLIPS as by kinds then)": a MISER's TICKET makes two SLIPS
        run("LEND by kinds", () -> {
            // It PASSES if 0 or 1 is drawn: what one gives the other gets, two SLIPS.
            due("a MISER to a MISER", of("l11;m200n;m100n;c100y;c100y").lend(0), NONE);
            due("a CITIZEN to a MISER", of("l11;c200n;m100n;c100y;c100y").lend(0), 1);
            due("a RICH to a CITIZEN", of("l11;r200n;c100n;c100y;c100y").lend(0), NONE);
            // It PASSES if 2 or 3 is drawn: by 2 out of 9 now, by 3 out of 8 then.
            due("a MISER to a CITIZEN", of("l11;m200y;c100y;c100n;c100n").lend(0), 2);
            due("to a tenth TICKET", of("l11;c200y;c900n").lend(0), 1);
            due("to a MISER's tenth TICKET", of("l11;c200y;m900n").lend(0), 1);
        });
    }

    // ==== 3, promise 14

    private static void geese() {
        // "NONE: it needs none (0 GEESE)"
        run("LEAST needs none", () -> {
            LoserDraws x = of("l01;c100y");
            due("GEESE", x.least(0), 0);
            due("who", x.least(1), NONE);
        });
        // "with a likelihood of one half at least"
        run("LEAST just one half", () -> {
            LoserDraws x = of("l11;c300y;c300n");
            due("one half: GEESE", x.least(0), 0);
            due("one half: who", x.least(1), NONE);
            // 3 out of 7 draws free 1.
            LoserDraws y = of("l11;c400y;c300n");
            due("below: GEESE", y.least(0), 3);
            due("below: who", y.least(1), 1);
        });
        // "or can't be"
        run("LEAST can't be", () -> {
            LoserDraws x = of("l61;c100n;c100n");
            due("nobody RULES: GEESE", x.least(0), NONE);
            due("nobody RULES: who", x.least(1), NONE);
            LoserDraws y = of("l01;c100n;c100n");
            due("one of two is not more: GEESE", y.least(0), NONE);
            due("one of two is not more: who", y.least(1), NONE);
            LoserDraws z = of("l61;c199y");
            due("one who WISHES it and is FREE: GEESE", z.least(0), NONE);
            due("one who WISHES it and is FREE: who", z.least(1), NONE);
        });
        // "(as many GEESE as they have, and PRICE for each of their TICKETS)"
        run("LEAST, how many", () -> {
            due("the fewest", of("l01;c100n").least(0), 1);
            due("the most", of("l09;m999n").least(0), 99 + 81);
            due("TICKETS, not SLIPS", of("l03;r210n").least(0), 16);
            LoserDraws x = of("l01;c110n;c210y;c110n");
            x.price(9);
            due("at another PRICE", x.least(0), 19);
        });
        // "of several the least": the least GEESE, then the least number
        run("LEAST, who", () -> {
            LoserDraws x = of("l02;c105n;c103n;c120y");
            due("fewer GEESE", x.least(1), 1);
            due("fewer GEESE", x.least(0), 5);
            LoserDraws y = of("l02;c120y;c205n;c107n;r304n;c120y");
            due("as many: the least number", y.least(1), 1);
            due("as many", y.least(0), 9);
            // 1 is cheap, but RULES in one draw out of six alone.
            LoserDraws z = of("l11;c150n;c500n");
            due("the cheap one is not enough", z.least(1), 0);
            due("the cheap one is not enough", z.least(0), 51);
        });
    }

    // ==== 4, promises 15, 16

    private static void readings() {
        // "READINGS, 8 at most, numbered by how many there are"
        run("eight READINGS", () -> {
            LoserDraws x = of("l11;c100y;c100n");
            for (int k = 0; k < 8; k++) due("reading", x.reading(2), k);
            due("a ninth", x.reading(2), FULL);
            due("a ninth that is no set", x.reading(4), OUTSIDE);
            due("many", x.many(4), 8);
            due("one back", x.back(1), 7);
            due("an eighth again", x.reading(1), 7);
            due("a ninth", x.reading(1), FULL);
            due("all back", x.back(8), 0);
            due("the first again", x.reading(0), 0);
        });
        // "(0 .. as many as there are)"
        run("READINGS taken back", () -> {
            LoserDraws x = of("l11;c100y;c100n");
            due("back(0) of none", x.back(0), 0);
            due("back(1) of none", x.back(1), OUTSIDE);
            read(x, 1, 2, 3);
            due("back(0)", x.back(0), 3);
            due("back(4)", x.back(4), OUTSIDE);
            due("back(-1)", x.back(-1), OUTSIDE);
            due("back(MIN)", x.back(MIN), OUTSIDE);
            due("back(MAX)", x.back(MAX), OUTSIDE);
            due("many", x.many(4), 3);
            due("back(3)", x.back(3), 0);
            due("back(1)", x.back(1), OUTSIDE);
        });
        // "The last k READINGS are taken back"
        run("the last ones", () -> {
            LoserDraws x = of("l11;c100y;c100n");
            read(x, 2, 1, 3);
            due("1 and 2 can be, 3 can't", x.counts(), 0);
            due("back(1)", x.back(1), 2);
            due("by 2, 1", x.counts(), 2);
            read(x, 3, 1);
            due("back(1)", x.back(1), 1);
            due("by 3", x.counts(), 1);
        });
        // "just a set of CITIZENS RULED": from none to all of them
        run("sets", () -> {
            for (int people = 1; people <= 6; people++) {
                LoserDraws x = of("l11" + ";c100y".repeat(people));
                due("none", x.reading(0), 0);
                due("all", x.reading((1 << people) - 1), 1);
                due("one too many", x.reading(1 << people), OUTSIDE);
                due("below 0", x.reading(-1), OUTSIDE);
                due("many", x.many(4), 2);
            }
        });
    }

    // ==== 4, promises 17 to 19

    private static void whatCanBe() {
        // "by which all READINGS can be": without any all can be
        run("no READINGS", () -> {
            LoserDraws x = of("l61;c100y;m900n");
            for (int c = 0; c < 2; c++) due("tickets(" + c + ")", x.tickets(c), 1022);
            for (int c = 0; c < 2; c++) due("kinds(" + c + ")", x.kinds(c), 7);
            due("counts()", x.counts(), 127);
        });
        run("READINGS that can't be", () -> {
            LoserDraws x = of("l11;c100y;c100n");
            read(x, 3);
            due("tickets", x.tickets(0), 0);
            due("kinds", x.kinds(0), 0);
            due("counts by all", x.counts(), 1);
            read(x, 3, 0);
            due("counts by all and none", x.counts(), 0);
        });
        // "TICKETS of a CITIZEN: 1 .. 9", from the least and up to the most
        run("TICKETS", () -> {
            LoserDraws x = of("l61;c100y;c900n");
            read(x, 2);
            due("6 or more", x.tickets(0), 0b1111000000);
            x.drawn(5);
            due("5 or more", x.tickets(0), 0b1111100000);
            x.drawn(1);
            due("1 or more", x.tickets(0), 0b1111111110);
            due("of another: all the same", x.tickets(1), 0b1111111110);
            read(x, 0);
            due("both by one SLIP", x.tickets(0), 0);
        });
        run("TICKETS by kinds", () -> {
            LoserDraws x = of("l61;r100y;m100n;c100y");
            read(x, 6);
            due("a RICH has one SLIP more", x.tickets(0), 0b1111100000);
            read(x, 5);
            due("a MISER 2 and twice TICKETS", x.tickets(1), 0b1111111100);
            x.drawn(4);
            due("a MISER by one TICKET has four", x.tickets(1), 0b1111111110);
        });
        // "(all of them, if there are fewer)"
        run("TICKETS where all SLIPS come", () -> {
            LoserDraws x = of("l61;c900y;c200n;c300n");
            read(x, 0);
            due("all FREE", x.tickets(0), 0b1111111110);
            // 0 RULES: all are of 1, 2, who have five; six are to come.
            read(x, 1);
            due("0 RULES", x.tickets(0), 0);
            due("by one of 1's more", x.tickets(1), 0b1111111000);
            due("by one of 2's more", x.tickets(2), 0b1111110000);
        });
        // "KINDS of a CITIZEN: 0 .. 2"
        run("KINDS", () -> {
            LoserDraws x = of("l31;c200y;c900n");
            read(x, 2);
            due("RICH, MISER", x.kinds(0), 6);
            x.drawn(2);
            due("all", x.kinds(0), 7);
            x.drawn(4);
            due("MISER", x.kinds(0), 4);
            x.drawn(6);
            due("MISER, all of theirs", x.kinds(0), 4);
            read(x, 2, 0);
            due("MISER by two READINGS", x.kinds(0), 4);
            read(x, 2, 3);
            due("none", x.kinds(0), 0);
        });
        // "COUNTS: how many are DRAWN: 0 .. 6"
        run("COUNTS", () -> {
            for (int free = 0; free < 64; free++) {
                LoserDraws x = of("l01;c100y;c100y;c100y;c100y;c100y;c100y");
                read(x, 63 - free);
                due("just as many as are FREE", x.counts(), 1 << Integer.bitCount(free));
            }
            LoserDraws y = of("l01;c300y;c900n");
            read(y, 2);
            due("1 .. 3 of three", y.counts(), 0b1110);
            read(y, 1);
            due("1 .. 6 of nine", y.counts(), 0b1111110);
            read(y, 0);
            due("2 .. 6", y.counts(), 0b1111100);
            read(y, 3);
            due("none", y.counts(), 1);
        });
        // "(all of them, if there are fewer)": more than all can be DRAWN
        run("COUNTS beyond all SLIPS", () -> {
            LoserDraws x = of("l01;c100y;c200n");
            read(x, 0);
            due("2, 3 and more than there are", x.counts(), 0b1111100);
            read(x, 1);
            due("1, 2 but no more", x.counts(), 0b110);
            LoserDraws y = of("l01;c100y");
            read(y, 0);
            due("all but 0", y.counts(), 0b1111110);
            read(y, 1);
            due("0", y.counts(), 1);
        });
        // "in place of what it is alone"
        run("alone", () -> {
            LoserDraws x = of("l21;c100y;c100n;c500y");
            read(x, 6);
            due("tickets(0)", x.tickets(0), 0b1111111100);
            due("of others", x.tickets(1), 0);
            due("kinds(0)", x.kinds(0), 6);
            due("of others", x.kinds(1), 0);
            due("counts()", x.counts(), 2);
            due("all is as it was", x.ofCitizen(0, 1) * 100 + x.ofCitizen(0, 0) * 10 + x.many(2), 102);
            just(x, 6, 0, 1);
        });
    }

    // ==== 5, promises 20 to 24

    private static void sheets() {
        // "or a row of 0 .. 60 numbers (0 at first)"
        run("0 .. 60 numbers", () -> {
            LoserDraws x = new LoserDraws();
            due("60", x.sheet(0, 2, 60), 1);
            due("the last", x.put(0, 59, 5), 1);
            due("behind it", x.put(0, 60, 5), INDEX);
            due("behind it", x.cell(0, 60, 2), LoserDraws.LOST);
            due("61", x.sheet(0, 2, 61), OUTSIDE);
            due("MAX", x.sheet(0, 2, MAX), OUTSIDE);
            due("-1", x.sheet(0, 2, -1), SIZE);
            due("MIN", x.sheet(0, 2, MIN), SIZE);
            due("all is as it was", x.cell(0, 59, 2), 5);
            due("0", x.sheet(0, 2, 0), 1);
            due("of nothing", x.put(0, 0, 5), INDEX);
            due("is no nothing", x.lose(0), 1);
        });
        // "A SHEET gets a new row"
        run("a new row", () -> {
            LoserDraws x = new LoserDraws();
            x.sheet(0, 2, 60);
            for (int i = 0; i < 60; i++) x.put(0, i, 1 + i);
            x.sheet(0, 2, 5);
            due("a shorter one ends", x.cell(0, 5, 2), LoserDraws.LOST);
            due("fault()", x.fault(), 3);
            x.sheet(0, 2, 60);
            for (int i = 0; i < 60; i++) due("cell " + i, x.cell(0, i, 2), 0);
            x.put(0, 7, 7);
            x.sheet(0, 1, 60);
            due("another LANE", x.cell(0, 7, 1), 0);
            due("no more of the one before", x.cell(0, 7, 2), LoserDraws.LOST);
            due("fault()", x.fault(), 2);
            x.put(0, 7, 7);
            x.lose(0);
            x.sheet(0, 1, 60);
            due("behind nothing", x.cell(0, 7, 1), 0);
        });
        // "SHEETS 0 .. 3 have nothing (at first)"; "A SHEET has nothing: 1; 0: it had nothing"
        run("nothing", () -> {
            LoserDraws x = new LoserDraws();
            for (int k = 0; k < 4; k++) {
                due("put", x.put(k, 0, 0), NULL);
                due("copy to itself", x.copy(k, 0, k, 0, 0), NULL);
                for (int lane = 0; lane < 3; lane++) {
                    due("republic: nothing is no CAST", x.republic(k, lane, 0, 0), NULL);
                    due("cell: nothing is no CAST", x.cell(k, 0, lane), LoserDraws.LOST);
                    due("fault()", x.fault(), 1);
                }
                due("lose", x.lose(k), 0);
                due("sheet", x.sheet(k, k % 3, k), 1);
            }
            for (int k = 0; k < 4; k++) due("lose", x.lose(k), 1);
            for (int k = 0; k < 4; k++) due("lose again", x.lose(k), 0);
            for (int k = 0; k < 4; k++) due("put", x.put(k, 0, 0), NULL);
            due("a SHEET more", x.lose(4), UNKNOWN);
            due("a SHEET less", x.lose(-1), UNKNOWN);
        });
        // "what comes to a cell of it is cut to its LANE"
        run("cut to the LANE", () -> {
            LoserDraws x = new LoserDraws();
            int[] values = {127, 128, -128, -129, 255, 256, 32767, 32768, -32768, -32769, 65535, 65536, MAX, MIN};
            int[] bytes = {127, -128, -128, 127, -1, 0, -1, 0, 0, -1, -1, 0, -1, 0};
            int[] shorts = {127, 128, -128, -129, 255, 256, 32767, -32768, -32768, 32767, -1, 0, -1, 0};
            for (int lane = 0; lane < 3; lane++) x.sheet(lane, lane, 1);
            for (int v = 0; v < values.length; v++) {
                for (int lane = 0; lane < 3; lane++) due("put", x.put(lane, 0, values[v]), 1);
                due("byte of " + values[v], x.cell(0, 0, 0), bytes[v]);
                due("short of " + values[v], x.cell(1, 0, 1), shorts[v]);
                due("int of " + values[v], x.cell(2, 0, 2), values[v]);
            }
        });
        // "An object is used for at most 512 calls after it has been made": up to the last of them
        run("512 calls", () -> {
            LoserDraws x = new LoserDraws();
            for (int k = 0; k < 255; k++) {
                due("sheet", x.sheet(k % 4, k % 3, 60), 1);
                due("put", x.put(k % 4, 59, k), 1);
            }
            due("call 511", x.sheet(0, 2, 60), 1);
            due("call 512", x.cell(0, 59, 2), 0);
        });
        // "taken as a row of a LANE": a row of just that LANE
        run("CAST", () -> {
            for (int lane = 0; lane < 3; lane++) {
                LoserDraws x = of("l01;c100y");
                x.sheet(1, lane, 1);
                for (int as = 0; as < 3; as++) {
                    due("republic", x.republic(1, as, 0, 0), as == lane ? -100 : CAST);
                    due("draw", x.draw(1, as, 0, 0, 0), as == lane ? 1 : CAST);
                    due("cell", x.cell(1, 0, as), as == lane ? 0 : LoserDraws.LOST);
                    due("fault()", x.fault(), as == lane ? 0 : 2);
                    x.sheet(2, as, 1);
                    due("copy", x.copy(1, 0, 2, 0, 1), as == lane ? 1 : CAST);
                    due("copy of none", x.copy(2, 0, 1, 1, 0), as == lane ? 0 : CAST);
                }
            }
        });
        // "n cells of a SHEET from i on go to another one (perhaps the same) from j on, as they were"
        run("copy on itself", () -> {
            for (int i = 0; i <= 3; i++) {
                for (int j = 0; j <= 3; j++) {
                    LoserDraws x = new LoserDraws();
                    row(x, 10, 11, 12, 13, 14);
                    due("copy", x.copy(1, i, 1, j, 2), 2);
                    for (int c = 0; c < 5; c++) {
                        due(i + " to " + j + ", cell " + c, x.cell(1, c, 2), c == j || c == j + 1 ? 10 + i + c - j : 10 + c);
                    }
                    due("cells in all", x.cell(1, 5, 2), LoserDraws.LOST);
                }
            }
        });
        run("copy of all and none", () -> {
            LoserDraws x = new LoserDraws();
            for (int k = 0; k < 2; k++) x.sheet(k, 0, 60);
            for (int i = 0; i < 60; i++) x.put(0, i, i - 128);
            due("none", x.copy(0, 60, 1, 60, 0), 0);
            due("one too many", x.copy(0, 0, 1, 0, 61), INDEX);
            due("one too far", x.copy(0, 0, 1, 1, 60), INDEX);
            due("from one too far", x.copy(0, 1, 1, 0, 60), INDEX);
            for (int i = 0; i < 60; i += 59) due("nothing came", x.cell(1, i, 0), 0);
            due("all", x.copy(0, 0, 1, 0, 60), 60);
            for (int i = 0; i < 60; i++) due("cell " + i, x.cell(1, i, 0), i - 128);
            x.put(0, 0, 1);
            due("both stay apart", x.cell(1, 0, 0), -128);
            x.lose(0);
            due("of one that has nothing any more", x.cell(1, 59, 0), -69);
        });
    }

    // ==== 5, promises 25 to 28

    private static void bodies() {
        // "an int that wraps, 0 at first, becomes 31 times it and the number"
        run("TRACE wraps", () -> {
            LoserDraws x = of("l01;c100y;m100y");
            due("at first", x.trace(), 0);
            // 4, 128, 3972, ...: the seventh would be 3668348548, beyond an int.
            int[] traces = {4, 128, 3972, 123136, 3817220, 118333824, -626618748, 2049655296};
            for (int t : traces) {
                x.call(0);
                due("trace", x.trace(), t);
            }
            due("asked again", x.trace(), 2049655296);
            x.call(1);
            due("MISERS have their own", x.trace(), 2049655296 * 31 + 5);
        });
        // The numbers are left as bodies begin: the outer one's first.
        run("TELLING of each kind", () -> {
            LoserDraws x = of("l01;c100y;r100y;m100y");
            due("a CITIZEN", x.tell(0), 1);
            due("1", x.trace(), 1);
            x = of("l01;c100y;r900y;m900y");
            due("a RICH", x.tell(1), 109);
            due("2 1", x.trace(), 2 * 31 + 1);
            x = of("l01;c100y;r900y;m900y");
            due("a MISER", x.tell(2), 118);
            due("3 2 1 1", x.trace(), ((3 * 31 + 2) * 31 + 1) * 31 + 1);
        });
        // "CALLED up by a lent body (4): their number; MISERS have their own (5): 20"
        run("CALLED up", () -> {
            LoserDraws x = of("l01;c100y;r100y;m100y;c100y;m100y;r100y");
            int[] want = {0, 1, 20, 3, 20, 5};
            for (int c = 0; c < 6; c++) due("call(" + c + ")", x.call(c), want[c]);
        });
        // "1 RICH (r), a CITIZEN; 2 MISER (m), a RICH"
        run("kinds of kinds", () -> {
            LoserDraws x = of("l01;c100y;r100y;m100y");
            for (int c = 0; c < 3; c++) {
                due("kind", x.ofCitizen(c, 0), c);
                for (int kind = 0; kind < 3; kind++) due("as", x.as(c, kind), kind <= c ? 1 : CAST);
                due("kind -1", x.as(c, -1), OUTSIDE);
                due("kind 3", x.as(c, 3), OUTSIDE);
            }
            due("leaves no TRACE", x.trace(), 0);
        });
    }

    // ==== promises 29, 30

    private static void counters() {
        // "(0 ahead of any)"
        run("fault() ahead of any", () -> {
            LoserDraws x = new LoserDraws();
            due("fault()", x.fault(), 0);
            x.drawn(9);
            x.lose(9);
            x.many(9);
            x.rules(9, 9);
            due("fault()", x.fault(), 0);
        });
        // "The FAULT of the latest call that names one: 0: it came to none, or was refused"
        run("the latest FAULT", () -> {
            LoserDraws x = of("l01;c100y");
            due("INDEX", x.put(0, 60, 0), INDEX);
            due("fault()", x.fault(), 3);
            due("fault() asked again", x.fault(), 3);
            due("NULL", x.put(3, 60, 0), NULL);
            due("fault()", x.fault(), 1);
            due("SIZE", x.sheet(3, 0, -1), SIZE);
            due("fault()", x.fault(), 4);
            due("CAST", x.as(0, 2), CAST);
            due("fault()", x.fault(), 2);
            due("a refused one", x.as(1, 2), UNKNOWN);
            due("fault()", x.fault(), 0);
            x.as(0, 2);
            due("a FIRST FAULT", x.republic(0, 0, 0, 8), -108);
            due("fault() of a FIRST FAULT", x.fault(), 0);
            x.as(0, 2);
            due("a FIRST WRONG", x.draw(0, 0, 0, 1, 0), -100);
            due("fault() of a FIRST WRONG", x.fault(), 0);
            x.as(0, 2);
            due("a REPUBLIC", x.republic(0, 0, 0, 9), 1);
            due("fault() of a REPUBLIC", x.fault(), 0);
        });
        // "(0 all without a REPUBLIC)"
        run("many without a REPUBLIC", () -> {
            LoserDraws x = new LoserDraws();
            due("a TEXT that is not taken", tell(x, "l69;c999x"), -108);
            for (int what = 0; what < 5; what++) due("many(" + what + ")", x.many(what), 0);
            due("many(5)", x.many(5), OUTSIDE);
            due("many(-1)", x.many(-1), OUTSIDE);
            due("reading", x.reading(0), STATE);
            due("many(4)", x.many(4), 0);
        });
        run("many at most", () -> {
            LoserDraws x = of("l69;m999y;m999y;m999y;m999y;m999y;m999y");
            for (int k = 0; k < 9; k++) x.reading(0);
            int[] most = {6, 120, 6, 9, 8};
            for (int what = 0; what < 5; what++) due("many(" + what + ")", x.many(what), most[what]);
        });
        // "DRAWN becomes v (0 .. 6): what it was", "PRICE becomes v (1 .. 9): what it was": to the same, too
        run("what it was", () -> {
            LoserDraws x = of("l69;c100y");
            due("drawn(6)", x.drawn(6), 6);
            due("drawn(0)", x.drawn(0), 6);
            due("drawn(0)", x.drawn(0), 0);
            due("price(9)", x.price(9), 9);
            due("price(1)", x.price(1), 9);
            due("price(1)", x.price(1), 1);
        });
        // "A CITIZEN WISHES the law (true), or not: 1; 0: it was so"
        run("it was so", () -> {
            LoserDraws x = of("l01;c100y;c100n");
            due("true, as it was", x.wish(0, true), 0);
            due("false", x.wish(0, false), 1);
            due("false, as it was", x.wish(0, false), 0);
            due("of the other, false as it was", x.wish(1, false), 0);
            due("true", x.wish(1, true), 1);
            due("who WISHES it", x.ofCitizen(0, 3) + 2 * x.ofCitizen(1, 3), 2);
        });
    }

    // ==== promises 8 to 14, 17 to 19: what if it were otherwise is asked, and all is as it was

    private static LoserDraws asked() {
        LoserDraws x = of("l11;c210y;r105n;m120n;c299y");
        x.drawn(4);
        x.wish(1, true);
        x.wish(3, false);
        x.reading(6);
        return x;
    }

    private static void questions() {
        List<ToLongFunction<LoserDraws>> all = List.of(x -> x.rules(1, 0), x -> x.just(5, 0), x -> x.mean(0),
            x -> x.passes(0), x -> x.buy(3, 7, 9), x -> x.lend(3), x -> x.least(0), x -> x.tickets(0), x -> x.kinds(0),
            x -> x.counts(), x -> x.draw(0, 0, 0, 0, 2));
        run("one question behind another", () -> {
            for (int first = 0; first < all.size(); first++) {
                for (int then = 0; then < all.size(); then++) {
                    LoserDraws x = asked();
                    all.get(first).applyAsLong(x);
                    long got = all.get(then).applyAsLong(x);
                    due("question " + then + " behind " + first, got, all.get(then).applyAsLong(asked()));
                }
            }
        });
        // "fewer SLIPS", "none is DRAWN": each question behind another DRAWN and another TEXT
        run("a question behind a change", () -> {
            for (ToLongFunction<LoserDraws> q : all) {
                LoserDraws x = of("l61;m900n;m900y;m900n;m900y;m900n;m900y");
                q.applyAsLong(x);
                tell(x, "l11;c210y;r105n;m120n;c299y");
                q.applyAsLong(x);
                x.drawn(4);
                x.wish(1, true);
                x.wish(3, false);
                x.reading(6);
                due("question " + all.indexOf(q), q.applyAsLong(x), q.applyAsLong(asked()));
            }
        });
    }
}
