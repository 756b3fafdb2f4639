import java.util.ArrayList;
import java.util.List;
import java.util.function.ToLongFunction;

/**
 * What each call refuses and which FAULTS it comes to: the first in the order in which its line tells
 * them, over all mixtures of numbers at and beyond their bounds; and that such a call changes nothing
 * but fault(), and that only of a call that names FAULTS.
 */
public final class RefusalTest {
    private static final int UNKNOWN = -1, OUTSIDE = -2, STATE = -3, FULL = -4;
    private static final int NULL = -11, CAST = -12, INDEX = -13, SIZE = -14;
    private static final long LOST = Long.MIN_VALUE;
    private static final int MIN = Integer.MIN_VALUE, MAX = Integer.MAX_VALUE;
    /** The fault() of a call that names no FAULTS: what it was. */
    private static final int LEFT = -1;
    private static final String FOUR = "l23;c210n;r305y;m120n;c599y";

    private static final int[] SHEETS = {MIN, -1, 0, 1, 2, 3, 4, MAX};
    private static final int[] LANES = {MIN, -1, 0, 1, 2, 3, 256, MAX};
    private static final int[] PLACES = {MIN, -1, 0, 1, 8, 9, 10, 59, 60, 61, MAX};
    private static final int[] WHATS = {MIN, -1, 0, 1, 2, 3, 4, 5, 6, 7, MAX};
    private static final int[] CITIZENS = {MIN, -1, 0, 1, 2, 3, 4, 5, 6, 32, MAX};

    private static int wrong = 0;

    private static void due(String call, long got, long want) {
        if (got != want) {
            wrong++;
            System.out.println(call + " answered " + got + ", due is " + want);
        }
    }

    public static void main(String[] args) {
        republicOrder();
        drawOrder();
        sheetOrder();
        putOrder();
        cellOrder();
        copyOrder();
        asOrder();
        ofCitizenOrder();
        buyOrder();
        sharesAreLost();
        numbersOutside();
        unknownCitizens();
        readingOrder();
        changesNothing();
        System.out.println(wrong == 0 ? "all refusals are as told" : wrong + " answers are not as due");
        if (wrong != 0) System.exit(1);
    }

    // ---- the objects that are asked

    private static int tell(LoserDraws x, int sheet, int lane, String text) {
        x.sheet(sheet, lane, text.length());
        for (int i = 0; i < text.length(); i++) x.put(sheet, i, text.charAt(i));
        return x.republic(sheet, lane, 0, text.length());
    }

    /** SHEET 0 has 9 bytes, 1 nothing, 2 no ints, 3 60 shorts; all are 0. */
    private static LoserDraws withSheets(String text) {
        LoserDraws x = new LoserDraws();
        if (!text.isEmpty()) due("republic of " + text, tell(x, 0, 0, text), (text.length() - 3) / 6);
        x.sheet(0, 0, 9);
        x.lose(1);
        x.sheet(2, 2, 0);
        x.sheet(3, 1, 60);
        return x;
    }

    private static boolean isSheet(int k) {
        return k >= 0 && k <= 3;
    }

    private static int lengthOf(int k) {
        return k == 0 ? 9 : k == 3 ? 60 : 0;
    }

    private static int laneOf(int k) {
        return k == 0 ? 0 : k == 3 ? 1 : 2;
    }

    private static boolean beyond(int k, int i, int n) {
        return i < 0 || i > lengthOf(k) || n < 0 || (long) i + n > lengthOf(k);
    }

    private static int faultOf(long answer) {
        return answer <= NULL && answer >= SIZE ? (int) (-10 - answer) : 0;
    }

    private static String told(String name, int... numbers) {
        StringBuilder s = new StringBuilder(name).append("(");
        for (int k = 0; k < numbers.length; k++) s.append(k == 0 ? "" : ", ").append(numbers[k]);
        return s.append(")").toString();
    }

    private static void dueWithFault(LoserDraws x, String call, long got, long want) {
        due(call, got, want);
        due("fault() after " + call, x.fault(), faultOf(want));
    }

    // ---- the order of each call's refusals and FAULTS

    // Promise 2: UNKNOWN; OUTSIDE: lane; CAST (nothing is no CAST); NULL; SIZE: n below 0; INDEX; -100 less it.
    private static void republicOrder() {
        for (int k : SHEETS) {
            for (int lane : LANES) {
                LoserDraws x = withSheets("");
                for (int i : PLACES) {
                    for (int n : PLACES) {
                        int want = !isSheet(k) ? UNKNOWN : lane < 0 || lane > 2 ? OUTSIDE
                            : k != 1 && lane != laneOf(k) ? CAST : k == 1 ? NULL : n < 0 ? SIZE
                            : beyond(k, i, n) ? INDEX : -100;
                        dueWithFault(x, told("republic", k, lane, i, n), x.republic(k, lane, i, n), want);
                    }
                }
                due("no REPUBLIC came", x.many(0), 0);
            }
        }
    }

    // Promise 7: UNKNOWN: SHEET; OUTSIDE: lane, n (0 .. 20), what (0 .. 2); STATE: there is no REPUBLIC; CAST; NULL; INDEX.
    private static void drawOrder() {
        int[] ns = {MIN, -1, 0, 1, 2, 9, 10, 20, 21, MAX};
        for (String text : new String[] {"", "l21;c200y;c100n"}) {
            for (int k : SHEETS) {
                for (int lane : LANES) {
                    for (int what : new int[] {MIN, -1, 0, 1, 2, 3, MAX}) {
                        LoserDraws x = withSheets(text);
                        for (int i : PLACES) {
                            for (int n : ns) {
                                int want = !isSheet(k) ? UNKNOWN
                                    : lane < 0 || lane > 2 || n < 0 || n > 20 || what < 0 || what > 2 ? OUTSIDE
                                    : text.isEmpty() ? STATE : k != 1 && lane != laneOf(k) ? CAST
                                    : k == 1 ? NULL : beyond(k, i, n) ? INDEX : zerosDrawn(n, what);
                                dueWithFault(x, told("draw", k, lane, i, n, what), x.draw(k, lane, i, n, what), want);
                            }
                        }
                    }
                }
            }
        }
    }

    /** SLIP 0 is CITIZEN 0's, who WISHES the law; told twice it is wrong. */
    private static int zerosDrawn(int n, int what) {
        if (n >= 2) return what == 1 ? 1 : -101;
        return what == 0 ? n == 0 ? 3 : 2 : what == 1 ? -9 : 0;
    }

    // Promise 20: UNKNOWN; OUTSIDE: lane, n above 60; SIZE.
    private static void sheetOrder() {
        for (int k : SHEETS) {
            for (int lane : LANES) {
                LoserDraws x = new LoserDraws();
                for (int n : PLACES) {
                    int want = !isSheet(k) ? UNKNOWN : lane < 0 || lane > 2 || n > 60 ? OUTSIDE : n < 0 ? SIZE : 1;
                    dueWithFault(x, told("sheet", k, lane, n), x.sheet(k, lane, n), want);
                }
            }
        }
    }

    // Promise 22: UNKNOWN; NULL; INDEX.
    private static void putOrder() {
        for (int k : SHEETS) {
            LoserDraws x = withSheets("");
            for (int i : PLACES) {
                for (int v : new int[] {MIN, -1, 0, 1, MAX}) {
                    int want = !isSheet(k) ? UNKNOWN : k == 1 ? NULL : beyond(k, i, 1) ? INDEX : 1;
                    dueWithFault(x, told("put", k, i, v), x.put(k, i, v), want);
                }
            }
        }
    }

    // Promise 23: LOST: UNKNOWN, OUTSIDE: lane; FAULTS CAST (nothing is no CAST), NULL, INDEX.
    private static void cellOrder() {
        for (int k : SHEETS) {
            LoserDraws x = withSheets("");
            for (int lane : LANES) {
                for (int i : PLACES) {
                    String call = told("cell", k, i, lane);
                    int fault = !isSheet(k) || lane < 0 || lane > 2 ? 0 : k != 1 && lane != laneOf(k) ? 2
                        : k == 1 ? 1 : beyond(k, i, 1) ? 3 : 0;
                    boolean there = isSheet(k) && k != 1 && lane == laneOf(k) && !beyond(k, i, 1);
                    due(call, x.cell(k, i, lane), there ? 0 : LOST);
                    due("fault() after " + call, x.fault(), fault);
                }
            }
        }
    }

    // Promise 24: UNKNOWN; FAULTS NULL (the first, the other), CAST (unlike LANES), INDEX: i, j, n below 0 or beyond.
    private static void copyOrder() {
        for (int k : SHEETS) {
            for (int other : SHEETS) {
                for (int n : PLACES) {
                    LoserDraws x = withSheets("");
                    for (int i : PLACES) {
                        for (int j : PLACES) {
                            int want = !isSheet(k) || !isSheet(other) ? UNKNOWN : k == 1 || other == 1 ? NULL
                                : laneOf(k) != laneOf(other) ? CAST : beyond(k, i, n) || beyond(other, j, n) ? INDEX : n;
                            dueWithFault(x, told("copy", k, i, other, j, n), x.copy(k, i, other, j, n), want);
                        }
                    }
                }
            }
        }
    }

    // Promise 27: UNKNOWN; OUTSIDE; CAST: they are none.
    private static void asOrder() {
        LoserDraws x = withSheets("l11;c100y;r100y;m100y");
        for (int c : CITIZENS) {
            for (int kind : WHATS) {
                int want = c < 0 || c > 2 ? UNKNOWN : kind < 0 || kind > 2 ? OUTSIDE : kind > c ? CAST : 1;
                dueWithFault(x, told("as", c, kind), x.as(c, kind), want);
            }
        }
    }

    // Promise 3: UNKNOWN; OUTSIDE.
    private static void ofCitizenOrder() {
        LoserDraws bare = new LoserDraws();
        LoserDraws x = withSheets("l11;c234y;r567n");
        int[][] told = {{0, 2, 34, 1, 2, 0}, {1, 5, 67, 0, 6, 2}};
        for (int c : CITIZENS) {
            for (int what : WHATS) {
                int want = c < 0 || c > 1 ? UNKNOWN : what < 0 || what > 5 ? OUTSIDE : told[c][what];
                due(told("ofCitizen", c, what), x.ofCitizen(c, what), want);
                due(told("bare ofCitizen", c, what), bare.ofCitizen(c, what), UNKNOWN);
            }
        }
    }

    // Promise 12: UNKNOWN; OUTSIDE: upper (0 .. 999), lower (1 .. 999).
    private static void buyOrder() {
        int[] uppers = {MIN, -1, 0, 1, 998, 999, 1000, MAX};
        int[] lowers = {MIN, -1, 0, 1, 999, 1000, MAX};
        for (int c : CITIZENS) {
            LoserDraws bare = new LoserDraws();
            // All three SLIPS are drawn: all are FREE for sure.
            LoserDraws x = withSheets("l31;c200y;c100n");
            for (int upper : uppers) {
                for (int lower : lowers) {
                    int want = c < 0 || c > 1 ? UNKNOWN : upper < 0 || upper > 999 || lower < 1 || lower > 999 ? OUTSIDE
                        : upper <= lower ? 0 : -9;
                    due(told("buy", c, upper, lower), x.buy(c, upper, lower), want);
                    due(told("bare buy", c, upper, lower), bare.buy(c, upper, lower), UNKNOWN);
                }
            }
        }
    }

    // Promises 8 to 11: LOST, whatever is refused; fault() is left.
    private static void sharesAreLost() {
        LoserDraws bare = new LoserDraws();
        LoserDraws x = withSheets("l01;c100y;c100y");
        bare.put(0, 0, 0);
        x.put(1, 0, 0);
        for (int which : WHATS) {
            boolean is = which == 0 || which == 1;
            for (int c : CITIZENS) {
                due(told("rules", c, which), x.rules(c, which), is && c >= 0 && c <= 1 ? 1 : LOST);
                due(told("bare rules", c, which), bare.rules(c, which), LOST);
            }
            for (int set : new int[] {MIN, MIN + 3, -1, 3, 4, 5, 7, 64, MAX}) {
                due(told("just", set, which), x.just(set, which), is && set == 3 ? 1 : LOST);
                due(told("bare just", set, which), bare.just(set, which), LOST);
            }
            due(told("mean", which), x.mean(which), which == 0 ? 2 : which == 1 ? 1 : LOST);
            due(told("passes", which), x.passes(which), is ? 1 : LOST);
            due(told("bare mean", which), bare.mean(which), LOST);
            due(told("bare passes", which), bare.passes(which), LOST);
        }
        due("fault() is left", x.fault() * 10 + bare.fault(), 11);
    }

    // Promises 4, 5, 14, 16, 30: OUTSIDE, ahead of STATE where that is told behind it.
    private static void numbersOutside() {
        LoserDraws bare = new LoserDraws();
        LoserDraws x = withSheets("l65;c100y;c100y");
        for (int v : new int[] {MIN, -1, 0, 1, 2, 4, 5, 6, 7, 8, 9, 10, MAX}) {
            boolean canBeDrawn = v >= 0 && v <= 6;
            due(told("bare drawn", v), bare.drawn(v), canBeDrawn ? STATE : OUTSIDE);
            due(told("drawn", v), x.drawn(v), canBeDrawn ? 6 : OUTSIDE);
            due("DRAWN", x.drawn(6), canBeDrawn ? v : 6);
            boolean canBePaid = v >= 1 && v <= 9;
            due(told("bare price", v), bare.price(v), canBePaid ? STATE : OUTSIDE);
            due(told("price", v), x.price(v), canBePaid ? 5 : OUTSIDE);
            due("PRICE", x.price(5), canBePaid ? v : 5);
            due(told("bare least", v), bare.least(v), v == 0 || v == 1 ? STATE : OUTSIDE);
            due(told("least", v), x.least(v), v == 0 || v == 1 ? -9 : OUTSIDE);
            due(told("bare back", v), bare.back(v), v == 0 ? 0 : OUTSIDE);
            due(told("back", v), x.back(v), v == 0 ? 0 : OUTSIDE);
            due(told("bare many", v), bare.many(v), v >= 0 && v <= 4 ? 0 : OUTSIDE);
            due(told("many", v), x.many(v), v < 0 || v > 4 ? OUTSIDE : new int[] {2, 2, 6, 5, 0}[v]);
        }
        due("bare counts()", bare.counts(), STATE);
    }

    // Promises 6, 13, 17, 18, 25, 26 (and 13: STATE: they have but one); promise 21: UNKNOWN.
    private static void unknownCitizens() {
        LoserDraws bare = new LoserDraws();
        LoserDraws x = withSheets("l11;c100y;c200y");
        for (int c : CITIZENS) {
            boolean is = c == 0 || c == 1;
            due(told("wish", c, 1), x.wish(c, true), is ? 0 : UNKNOWN);
            due(told("lend", c), x.lend(c), c == 0 ? STATE : c == 1 ? -9 : UNKNOWN);
            due(told("tickets", c), x.tickets(c), is ? 1022 : UNKNOWN);
            due(told("kinds", c), x.kinds(c), is ? 7 : UNKNOWN);
            due(told("tell", c), x.tell(c), is ? c + 1 : UNKNOWN);
            due(told("call", c), x.call(c), is ? c : UNKNOWN);
            due(told("bare wish", c), bare.wish(c, false), UNKNOWN);
            due(told("bare lend", c), bare.lend(c), UNKNOWN);
            due(told("bare tickets", c), bare.tickets(c), UNKNOWN);
            due(told("bare kinds", c), bare.kinds(c), UNKNOWN);
            due(told("bare tell", c), bare.tell(c), UNKNOWN);
            due(told("bare call", c), bare.call(c), UNKNOWN);
        }
        for (int k : SHEETS) due(told("lose", k), bare.lose(k), isSheet(k) ? 0 : UNKNOWN);
        due("bare trace()", bare.trace(), 0);
    }

    // Promise 15: STATE: there is no REPUBLIC; OUTSIDE: set; FULL.
    private static void readingOrder() {
        int[] sets = {MIN, -1, 4, 5, 8, 64, MAX};
        LoserDraws bare = new LoserDraws();
        LoserDraws x = withSheets("l11;c100y;c200y");
        for (int set : sets) due(told("bare reading", set), bare.reading(set), STATE);
        due("bare reading(0)", bare.reading(0), STATE);
        for (int set : sets) due(told("reading", set), x.reading(set), OUTSIDE);
        for (int k = 0; k < 8; k++) due("reading number " + k, x.reading(k % 4), k);
        for (int set : sets) due(told("full reading", set), x.reading(set), OUTSIDE);
        for (int set = 0; set < 4; set++) due(told("full reading", set), x.reading(set), FULL);
    }

    // ---- a refused call changes nothing

    private record Refused(String name, ToLongFunction<LoserDraws> call, long answer, int fault) { }

    private static void changesNothing() {
        List<Refused> bare = new ArrayList<>();
        refusedAlways(bare);
        refusedWithout(bare);
        for (Refused r : bare) asIfNotCalled(r, 0);
        List<Refused> all = new ArrayList<>();
        refusedAlways(all);
        refusedOrFaulty(all);
        for (Refused r : all) asIfNotCalled(r, 3);
        asIfNotCalled(new Refused("back beyond three", x -> x.back(4), OUTSIDE, LEFT), 3);
        asIfNotCalled(new Refused("back(0)", x -> x.back(0), 3, LEFT), 3);
        all.add(new Refused("reading, full", x -> x.reading(1), FULL, LEFT));
        all.add(new Refused("back beyond eight", x -> x.back(9), OUTSIDE, LEFT));
        for (Refused r : all) asIfNotCalled(r, 8);
    }

    private static void refusedAlways(List<Refused> to) {
        to.add(new Refused("republic UNKNOWN", x -> x.republic(4, 1, 0, 27), UNKNOWN, 0));
        to.add(new Refused("republic OUTSIDE", x -> x.republic(1, 3, 0, 27), OUTSIDE, 0));
        to.add(new Refused("republic CAST", x -> x.republic(1, 0, 0, 27), CAST, 2));
        to.add(new Refused("republic NULL", x -> x.republic(0, 0, 0, 27), NULL, 1));
        to.add(new Refused("republic SIZE", x -> x.republic(1, 1, 0, -27), SIZE, 4));
        to.add(new Refused("republic INDEX", x -> x.republic(1, 1, 1, 27), INDEX, 3));
        to.add(new Refused("republic FIRST FAULT", x -> x.republic(1, 1, 0, 26), -126, 0));
        to.add(new Refused("ofCitizen UNKNOWN", x -> x.ofCitizen(4, 0), UNKNOWN, LEFT));
        to.add(new Refused("drawn OUTSIDE", x -> x.drawn(7), OUTSIDE, LEFT));
        to.add(new Refused("price OUTSIDE", x -> x.price(10), OUTSIDE, LEFT));
        to.add(new Refused("wish UNKNOWN", x -> x.wish(4, true), UNKNOWN, LEFT));
        to.add(new Refused("draw UNKNOWN", x -> x.draw(4, 1, 0, 1, 0), UNKNOWN, 0));
        to.add(new Refused("draw OUTSIDE", x -> x.draw(2, 1, 0, 21, 0), OUTSIDE, 0));
        to.add(new Refused("rules LOST", x -> x.rules(4, 0), LOST, LEFT));
        to.add(new Refused("just LOST", x -> x.just(16, 0), LOST, LEFT));
        to.add(new Refused("mean LOST", x -> x.mean(2), LOST, LEFT));
        to.add(new Refused("passes LOST", x -> x.passes(2), LOST, LEFT));
        to.add(new Refused("buy UNKNOWN", x -> x.buy(4, 1, 2), UNKNOWN, LEFT));
        to.add(new Refused("lend UNKNOWN", x -> x.lend(4), UNKNOWN, LEFT));
        to.add(new Refused("least OUTSIDE", x -> x.least(2), OUTSIDE, LEFT));
        to.add(new Refused("back OUTSIDE", x -> x.back(-1), OUTSIDE, LEFT));
        to.add(new Refused("tickets UNKNOWN", x -> x.tickets(4), UNKNOWN, LEFT));
        to.add(new Refused("kinds UNKNOWN", x -> x.kinds(4), UNKNOWN, LEFT));
        to.add(new Refused("sheet UNKNOWN", x -> x.sheet(4, 0, 1), UNKNOWN, 0));
        to.add(new Refused("sheet OUTSIDE lane", x -> x.sheet(1, 3, 1), OUTSIDE, 0));
        to.add(new Refused("sheet OUTSIDE n", x -> x.sheet(1, 0, 61), OUTSIDE, 0));
        to.add(new Refused("sheet SIZE", x -> x.sheet(1, 0, -1), SIZE, 4));
        to.add(new Refused("sheet SIZE of nothing", x -> x.sheet(0, 0, -1), SIZE, 4));
        to.add(new Refused("lose UNKNOWN", x -> x.lose(4), UNKNOWN, LEFT));
        to.add(new Refused("put UNKNOWN", x -> x.put(4, 0, 1), UNKNOWN, 0));
        to.add(new Refused("put NULL", x -> x.put(0, 0, 1), NULL, 1));
        to.add(new Refused("put INDEX", x -> x.put(1, 27, 1), INDEX, 3));
        to.add(new Refused("cell UNKNOWN", x -> x.cell(4, 0, 1), LOST, 0));
        to.add(new Refused("cell OUTSIDE", x -> x.cell(1, 0, 3), LOST, 0));
        to.add(new Refused("cell CAST", x -> x.cell(1, 0, 2), LOST, 2));
        to.add(new Refused("cell NULL", x -> x.cell(0, 0, 2), LOST, 1));
        to.add(new Refused("cell INDEX", x -> x.cell(1, 27, 1), LOST, 3));
        to.add(new Refused("copy UNKNOWN", x -> x.copy(1, 0, 4, 0, 1), UNKNOWN, 0));
        to.add(new Refused("copy NULL", x -> x.copy(1, 0, 0, 0, 1), NULL, 1));
        to.add(new Refused("copy CAST", x -> x.copy(1, 0, 2, 0, 1), CAST, 2));
        to.add(new Refused("copy INDEX", x -> x.copy(1, 0, 1, 1, 27), INDEX, 3));
        to.add(new Refused("copy INDEX, n below 0", x -> x.copy(1, 1, 1, 2, -1), INDEX, 3));
        to.add(new Refused("tell UNKNOWN", x -> x.tell(4), UNKNOWN, LEFT));
        to.add(new Refused("call UNKNOWN", x -> x.call(4), UNKNOWN, LEFT));
        to.add(new Refused("as UNKNOWN", x -> x.as(4, 0), UNKNOWN, 0));
        to.add(new Refused("many OUTSIDE", x -> x.many(5), OUTSIDE, LEFT));
    }

    private static void refusedWithout(List<Refused> to) {
        to.add(new Refused("drawn STATE", x -> x.drawn(3), STATE, LEFT));
        to.add(new Refused("price STATE", x -> x.price(3), STATE, LEFT));
        to.add(new Refused("draw STATE", x -> x.draw(2, 2, 0, 1, 0), STATE, 0));
        to.add(new Refused("just STATE", x -> x.just(0, 0), LOST, LEFT));
        to.add(new Refused("mean STATE", x -> x.mean(0), LOST, LEFT));
        to.add(new Refused("passes STATE", x -> x.passes(0), LOST, LEFT));
        to.add(new Refused("least STATE", x -> x.least(0), STATE, LEFT));
        to.add(new Refused("reading STATE", x -> x.reading(0), STATE, LEFT));
        to.add(new Refused("counts STATE", x -> x.counts(), STATE, LEFT));
        to.add(new Refused("wish of nobody", x -> x.wish(0, true), UNKNOWN, LEFT));
        to.add(new Refused("tell of nobody", x -> x.tell(0), UNKNOWN, LEFT));
        to.add(new Refused("call of nobody", x -> x.call(0), UNKNOWN, LEFT));
    }

    /** Beside refusals: questions that are answered, and change nothing as well. */
    private static void refusedOrFaulty(List<Refused> to) {
        to.add(new Refused("ofCitizen OUTSIDE", x -> x.ofCitizen(0, 6), OUTSIDE, LEFT));
        to.add(new Refused("wish as it is", x -> x.wish(0, true), 0, LEFT));
        to.add(new Refused("draw CAST", x -> x.draw(2, 1, 0, 1, 0), CAST, 2));
        to.add(new Refused("draw NULL", x -> x.draw(0, 1, 0, 1, 0), NULL, 1));
        to.add(new Refused("draw INDEX", x -> x.draw(2, 2, 5, 1, 0), INDEX, 3));
        to.add(new Refused("draw FIRST WRONG", x -> x.draw(2, 2, 0, 5, 0), -101, 0));
        to.add(new Refused("draw", x -> x.draw(2, 2, 0, 1, 0), 14, 0));
        to.add(new Refused("buy OUTSIDE", x -> x.buy(0, 1, 0), OUTSIDE, LEFT));
        to.add(new Refused("buy", x -> x.buy(3, 9, 10), 6, LEFT));
        to.add(new Refused("lend STATE", x -> x.lend(2), STATE, LEFT));
        to.add(new Refused("lend", x -> x.lend(1), 2, LEFT));
        to.add(new Refused("least", x -> x.least(0), 0, LEFT));
        to.add(new Refused("reading OUTSIDE", x -> x.reading(16), OUTSIDE, LEFT));
        to.add(new Refused("as OUTSIDE", x -> x.as(0, 3), OUTSIDE, 0));
        to.add(new Refused("as CAST", x -> x.as(0, 1), CAST, 2));
        to.add(new Refused("as", x -> x.as(2, 1), 1, 0));
        to.add(new Refused("lose nothing", x -> x.lose(0), 0, LEFT));
    }

    private static LoserDraws prepared(int readings) {
        LoserDraws x = new LoserDraws();
        if (readings > 0) {
            due("prepared", tell(x, 1, 1, FOUR), 4);
            x.drawn(3);
            x.price(5);
            x.wish(0, true);
            x.tell(2);
            x.call(0);
            for (int k = 0; k < readings; k++) x.reading(new int[] {5, 9, 1, 8}[k % 4]);
        } else {
            tell(x, 1, 1, FOUR.substring(0, 26) + "Y");
        }
        x.sheet(2, 2, 5);
        x.put(2, 4, 70001);
        x.sheet(3, 0, 0);
        // A FAULT that no call below comes to with the same number by mistake.
        due("a FAULT ahead", x.sheet(3, 0, -1), SIZE);
        return x;
    }

    private static void asIfNotCalled(Refused r, int readings) {
        String name = r.name + " (" + readings + " READINGS)";
        LoserDraws x = prepared(readings);
        due(name, r.call.applyAsLong(x), r.answer);
        due("fault() after " + name, x.fault(), r.fault == LEFT ? 4 : r.fault);
        String now = all(x);
        String due = all(prepared(readings));
        if (!now.equals(due)) {
            wrong++;
            System.out.println(name + " changed something:\n  " + now + "\n  " + due);
        }
    }

    /** All that can be asked of an object (it has no READINGS any more behind it). */
    private static String all(LoserDraws x) {
        StringBuilder s = new StringBuilder();
        for (int what = 0; what < 5; what++) s.append(x.many(what)).append(' ');
        s.append("trace ").append(x.trace());
        for (int c = 0; c < 5; c++) {
            s.append("; citizen");
            for (int what = 0; what < 6; what++) s.append(' ').append(x.ofCitizen(c, what));
        }
        for (int k = 0; k < 4; k++) {
            for (int lane = 0; lane < 3; lane++) {
                s.append("; sheet");
                for (int i = 0; i < 60; i++) {
                    long cell = x.cell(k, i, lane);
                    s.append(' ').append(cell == LOST ? "fault " + x.fault() : cell);
                    if (cell == LOST) break;
                }
            }
        }
        for (int k = x.many(4); k >= 0; k--) {
            s.append("; by readings ").append(x.counts()).append(' ').append(x.tickets(0)).append(' ').append(x.kinds(2));
            x.back(1);
        }
        return s.toString();
    }
}
