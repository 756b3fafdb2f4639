/** A part for each promise of the document: ordinary inputs, the edges that it names, wrong inputs. */
public final class PromisesTest {
    private static final int UNKNOWN = -1, OUTSIDE = -2, STATE = -3, FULL = -4, NONE = -9;
    private static final int NULL = -11, CAST = -12, INDEX = -13, SIZE = -14;
    private static final int LEAST = Integer.MIN_VALUE, MOST = Integer.MAX_VALUE;
    private static final String FOUR = "l23;c210n;r305y;m120n;c599y";

    private static int wrong = 0;

    private static void due(String call, long got, long want) {
        if (got != want) {
            wrong++;
            System.out.println(call + " answered " + got + ", due is " + want);
        }
    }

    private static void fault(String call, LoserDraws x, int want) {
        due("fault() after " + call, x.fault(), want);
    }

    /** Puts codes on a SHEET of a LANE, behind some cells of 7. */
    private static void write(LoserDraws x, int sheet, int lane, int ahead, String text) {
        x.sheet(sheet, lane, ahead + text.length());
        for (int i = 0; i < ahead; i++) x.put(sheet, i, 7);
        for (int i = 0; i < text.length(); i++) x.put(sheet, ahead + i, text.charAt(i));
    }

    private static int tell(LoserDraws x, String text) {
        write(x, 0, 2, 0, text);
        return x.republic(0, 2, 0, text.length());
    }

    private static LoserDraws of(String text) {
        LoserDraws x = new LoserDraws();
        due("republic of " + text, tell(x, text), (text.length() - 3) / 6);
        return x;
    }

    private static void share(String call, long upper, long lower, long wantUpper, long wantLower) {
        due(call + " upper", upper, wantUpper);
        due(call + " lower", lower, wantLower);
    }

    public static void main(String[] args) {
        newObject();
        republic();
        republicTexts();
        ofCitizen();
        drawnAndPrice();
        wish();
        draw();
        drawRefusals();
        rules();
        just();
        mean();
        passes();
        buy();
        lend();
        least();
        reading();
        back();
        tickets();
        kinds();
        counts();
        sheet();
        lose();
        put();
        cell();
        copy();
        copyFaults();
        tellAndTrace();
        call();
        as();
        fault();
        many();
        System.out.println(wrong == 0 ? "all promises are kept" : wrong + " answers are not as due");
        if (wrong != 0) System.exit(1);
    }

    // Promise 1
    private static void newObject() {
        LoserDraws x = new LoserDraws();
        for (int what = 0; what <= 4; what++) due("new many(" + what + ")", x.many(what), 0);
        for (int c = 0; c < 6; c++) due("new ofCitizen", x.ofCitizen(c, 0), UNKNOWN);
        for (int k = 0; k < 4; k++) due("new lose(" + k + ")", x.lose(k), 0);
        for (int k = 0; k < 4; k++) due("new put(" + k + ")", x.put(k, 0, 1), NULL);
        LoserDraws y = new LoserDraws();
        due("new trace()", y.trace(), 0);
        due("new fault()", y.fault(), 0);
        due("new wish", y.wish(0, true), UNKNOWN);
        due("new rules", y.rules(0, 0), LoserDraws.LOST);
        due("new buy", y.buy(0, 1, 2), UNKNOWN);
        due("new lend", y.lend(0), UNKNOWN);
        due("new tickets", y.tickets(0), UNKNOWN);
        due("new kinds", y.kinds(0), UNKNOWN);
        due("new tell", y.tell(0), UNKNOWN);
        due("new call", y.call(0), UNKNOWN);
        due("new as", y.as(0, 0), UNKNOWN);
        due("new back(0)", y.back(0), 0);
        due("new back(1)", y.back(1), OUTSIDE);
    }

    // Promise 2
    private static void republic() {
        for (int lane = 0; lane < 3; lane++) {
            LoserDraws x = new LoserDraws();
            write(x, 3, lane, 5, FOUR + ";c1");
            int other = (lane + 1) % 3;
            due("republic beyond", x.republic(3, lane, 5, 31), INDEX);
            fault("republic beyond", x, 3);
            due("republic whole", x.republic(3, lane, 5, 27), 4);
            fault("republic whole", x, 0);
            due("republic far", x.republic(3, lane, 36, 0), INDEX);
            due("republic at the end", x.republic(3, lane, 35, 0), -100);
            due("republic i below 0", x.republic(3, lane, -1, 0), INDEX);
            due("republic i + n wraps", x.republic(3, lane, 5, MOST), INDEX);
            due("republic i most", x.republic(3, lane, MOST, 5), INDEX);
            due("republic n below 0", x.republic(3, lane, -1, -1), SIZE);
            due("republic n least", x.republic(3, lane, 0, LEAST), SIZE);
            fault("republic n below 0", x, 4);
            due("republic CAST ahead of SIZE", x.republic(3, other, 0, -1), CAST);
            due("republic NULL, no CAST", x.republic(1, other, -1, -1), NULL);
            fault("republic NULL", x, 1);
            due("republic UNKNOWN ahead of OUTSIDE", x.republic(4, 3, 0, 1), UNKNOWN);
            fault("republic UNKNOWN", x, 0);
            due("republic sheet below 0", x.republic(-1, lane, 0, 1), UNKNOWN);
            due("republic lane 3", x.republic(1, 3, 0, 1), OUTSIDE);
            due("republic lane below 0", x.republic(1, -1, 0, 1), OUTSIDE);
            due("republic ends too soon", x.republic(3, lane, 5, 30), -130);
            due("republic of others", x.republic(3, lane, 4, 28), -100);
            fault("republic FIRST FAULT", x, 0);
            due("what was refused left all", x.many(0) * 100 + x.many(1), 415);
        }
    }

    private static void republicTexts() {
        LoserDraws x = of(FOUR);
        x.reading(3);
        String[] texts = {"", "k", "l", "l7", "l/", "l0", "l00", "l0:", "l01", "l01:", "l01;", "l01;x", "l01;C",
            "l01;c", "l01;c0", "l01;r:", "l01;r9", "l01;m9/", "l01;m9:", "l01;m90", "l01;m90/", "l01;m909", "l01;m909Y",
            "l01;m909x", "l01;m909y;", "l01;m909yy", "l01;m909n l"};
        int[] firsts = {0, 0, 1, 1, 1, 2, 2, 2, 3, 3, 4, 4, 4,
            5, 5, 5, 6, 6, 6, 7, 7, 8, 8,
            8, 10, 9, 9};
        for (int k = 0; k < texts.length; k++) {
            due("republic of '" + texts[k] + "'", tell(x, texts[k]), -100 - firsts[k]);
        }
        String six = "l69;c100n;c100n;c100n;c100n;c100n;c100n";
        due("a seventh CITIZEN", tell(x, six + ";c100n"), -139);
        due("behind the sixth", tell(x, six + "x"), -139);
        due("READINGS of a TEXT that is not taken", x.many(4), 1);
        due("six CITIZENS", tell(x, six), 6);
        due("READINGS are gone", x.many(4), 0);
        due("DRAWN anew", x.many(2), 6);
        due("PRICE anew", x.many(3), 9);
        due("one CITIZEN", tell(x, "l01;m999y"), 1);
        due("the others are gone", x.ofCitizen(1, 0), UNKNOWN);
        // Shorts and ints are not cut to bytes: 'l' and 256 is no 'l' there.
        write(x, 1, 1, 0, FOUR);
        x.put(1, 0, 'l' + 256);
        due("a code above 255", x.republic(1, 1, 0, 27), -100);
        write(x, 1, 0, 0, FOUR);
        x.put(1, 0, 'l' + 256);
        due("a code that is cut", x.republic(1, 0, 0, 27), 4);
    }

    // Promise 3
    private static void ofCitizen() {
        LoserDraws x = of(FOUR);
        int[][] want = {{0, 2, 10, 0, 2, 0}, {1, 3, 5, 1, 4, 2}, {2, 1, 20, 0, 4, 6}, {0, 5, 99, 1, 5, 10}};
        for (int c = 0; c < 4; c++) {
            for (int what = 0; what < 6; what++) {
                due("ofCitizen(" + c + ", " + what + ")", x.ofCitizen(c, what), want[c][what]);
            }
            due("ofCitizen what 6", x.ofCitizen(c, 6), OUTSIDE);
            due("ofCitizen what -1", x.ofCitizen(c, -1), OUTSIDE);
        }
        due("ofCitizen(4, 9)", x.ofCitizen(4, 9), UNKNOWN);
        due("ofCitizen(-1, 0)", x.ofCitizen(-1, 0), UNKNOWN);
        due("SLIPS of a MISER with 9", of("l01;m900y").ofCitizen(0, 4), 20);
    }

    // Promises 4, 5
    private static void drawnAndPrice() {
        LoserDraws x = new LoserDraws();
        due("drawn(7) without a REPUBLIC", x.drawn(7), OUTSIDE);
        due("drawn(6) without a REPUBLIC", x.drawn(6), STATE);
        due("price(0) without a REPUBLIC", x.price(0), OUTSIDE);
        due("price(9) without a REPUBLIC", x.price(9), STATE);
        tell(x, FOUR);
        due("drawn(6)", x.drawn(6), 2);
        due("drawn(-1)", x.drawn(-1), OUTSIDE);
        due("drawn(7)", x.drawn(7), OUTSIDE);
        due("drawn(0)", x.drawn(0), 6);
        due("many(2)", x.many(2), 0);
        due("price(9)", x.price(9), 3);
        due("price(10)", x.price(10), OUTSIDE);
        due("price(0)", x.price(0), OUTSIDE);
        due("price(1)", x.price(1), 9);
        due("many(3)", x.many(3), 1);
    }

    // Promise 6
    private static void wish() {
        LoserDraws x = of(FOUR);
        due("wish as it was", x.wish(0, false), 0);
        due("wish it", x.wish(0, true), 1);
        due("wish it still", x.wish(0, true), 0);
        due("who wishes", x.ofCitizen(0, 3), 1);
        due("wish no more", x.wish(1, false), 1);
        due("who doesn't", x.ofCitizen(1, 3), 0);
        due("wish(4)", x.wish(4, true), UNKNOWN);
        due("wish(-1)", x.wish(-1, true), UNKNOWN);
    }

    // Promise 7
    private static void draw() {
        for (int lane = 0; lane < 3; lane++) {
            LoserDraws x = of(FOUR);
            x.sheet(1, lane, 30);
            int[] slips = {0, 1, 2, 5, 6, 9, 10, 14, 15, -1, 6, 3, 6};
            for (int i = 0; i < slips.length; i++) x.put(1, i, slips[i]);
            int[][] want = {
                // i, n, who RULES, FIRST WRONG, PASSES
                {0, 0, 15, NONE, 0}, {0, 1, 14, NONE, 1}, {0, 2, 14, NONE, 1}, {2, 2, 13, NONE, 0},
                {4, 2, 11, NONE, 1}, {6, 2, 7, NONE, 0}, {3, 2, 9, NONE, 0}, {1, 5, 8, NONE, 1},
                {1, 6, 0, NONE, 0}, {7, 2, -101, 1, -101}, {8, 1, -100, 0, -100}, {9, 2, -100, 0, -100},
                {10, 3, -102, 2, -102}, {30, 0, 15, NONE, 0}, {12, 2, 10, NONE, 1}, {13, 2, -101, 1, -101}};
            for (int[] w : want) {
                for (int what = 0; what < 3; what++) {
                    due("draw " + w[0] + ", " + w[1] + " what " + what, x.draw(1, lane, w[0], w[1], what), w[2 + what]);
                    fault("draw", x, 0);
                }
            }
            due("a draw leaves SLIPS and all", x.many(1) * 10 + x.many(2), 152);
        }
        // More than DRAWN may be told, up to 20.
        LoserDraws y = of("l01;m900y;c900n");
        y.sheet(1, 0, 21);
        for (int i = 0; i < 20; i++) y.put(1, i, i);
        due("draw of 20", y.draw(1, 0, 0, 20, 0), 2);
        due("draw of 21", y.draw(1, 0, 0, 21, 0), OUTSIDE);
    }

    private static void drawRefusals() {
        LoserDraws x = new LoserDraws();
        x.sheet(1, 1, 9);
        due("draw UNKNOWN first", x.draw(4, 3, 0, 21, 3), UNKNOWN);
        due("draw lane", x.draw(1, 3, 0, 1, 0), OUTSIDE);
        due("draw n", x.draw(1, 1, 0, -1, 0), OUTSIDE);
        due("draw what", x.draw(1, 1, 0, 1, -1), OUTSIDE);
        due("draw STATE ahead of CAST", x.draw(1, 0, 0, 1, 0), STATE);
        due("draw STATE ahead of NULL", x.draw(2, 0, 0, 1, 0), STATE);
        fault("draw STATE", x, 0);
        tell(x, FOUR);
        due("draw CAST ahead of INDEX", x.draw(1, 0, 9, 1, 0), CAST);
        fault("draw CAST", x, 2);
        due("draw NULL", x.draw(2, 0, 0, 1, 0), NULL);
        due("draw INDEX", x.draw(1, 1, 9, 1, 1), INDEX);
        due("draw i below 0", x.draw(1, 1, -1, 0, 1), INDEX);
        due("draw i most", x.draw(1, 1, MOST, 20, 1), INDEX);
        due("draw from behind the end", x.draw(1, 1, 10, 0, 0), INDEX);
        fault("draw INDEX", x, 3);
        due("draw OUTSIDE", x.draw(1, 1, 0, 0, 3), OUTSIDE);
        fault("draw OUTSIDE", x, 0);
    }

    // Promise 8
    private static void rules() {
        LoserDraws x = of("l11;c100y;c300n");
        share("rules(0)", x.rules(0, 0), x.rules(0, 1), 3, 4);
        share("rules(1)", x.rules(1, 0), x.rules(1, 1), 1, 4);
        x.drawn(3);
        share("rules(1) of 3", x.rules(1, 0), x.rules(1, 1), 0, 1);
        x.drawn(6);
        share("rules(0) of too few", x.rules(0, 0), x.rules(0, 1), 0, 1);
        x.drawn(0);
        share("rules(0) of none", x.rules(0, 0), x.rules(0, 1), 1, 1);
        due("rules(2)", x.rules(2, 0), LoserDraws.LOST);
        due("rules(-1)", x.rules(-1, 0), LoserDraws.LOST);
        due("rules which 2", x.rules(0, 2), LoserDraws.LOST);
        due("rules which -1", x.rules(0, -1), LoserDraws.LOST);
    }

    // Promise 9
    private static void just() {
        LoserDraws x = of("l21;c100y;c200n;c100y");
        // Six draws of two SLIPS: 01 02 03 12 13 23.
        int[] wantUpper = {0, 1, 1, 0, 1, 1, 0, 0};
        int[] wantLower = {1, 3, 6, 1, 3, 6, 1, 1};
        long sum = 0;
        for (int set = 0; set < 8; set++) {
            share("just(" + set + ")", x.just(set, 0), x.just(set, 1), wantUpper[set], wantLower[set]);
            sum += 6 / x.just(set, 1) * x.just(set, 0);
        }
        due("all sets", sum, 6);
        due("just(8)", x.just(8, 0), LoserDraws.LOST);
        due("just(-1)", x.just(-1, 0), LoserDraws.LOST);
        due("just(MIN)", x.just(LEAST, 0), LoserDraws.LOST);
        due("just which 2", x.just(0, 2), LoserDraws.LOST);
        due("just which -1", x.just(0, -1), LoserDraws.LOST);
        x.drawn(6);
        share("just(0) of all", x.just(0, 0), x.just(0, 1), 1, 1);
        due("just without a REPUBLIC", new LoserDraws().just(0, 1), LoserDraws.LOST);
    }

    // Promise 10
    private static void mean() {
        LoserDraws x = of("l11;c100y;c300n");
        share("mean", x.mean(0), x.mean(1), 1, 1);
        x.drawn(2);
        share("mean of 2", x.mean(0), x.mean(1), 1, 2);
        x.drawn(0);
        share("mean of 0", x.mean(0), x.mean(1), 2, 1);
        due("mean which 2", x.mean(2), LoserDraws.LOST);
        due("mean which -1", x.mean(-1), LoserDraws.LOST);
        due("mean without a REPUBLIC", new LoserDraws().mean(0), LoserDraws.LOST);
    }

    // Promise 11
    private static void passes() {
        LoserDraws x = of("l11;c100y;c300n");
        share("passes", x.passes(0), x.passes(1), 3, 4);
        x.wish(1, true);
        share("passes by all", x.passes(0), x.passes(1), 1, 1);
        x.drawn(6);
        share("passes by nobody", x.passes(0), x.passes(1), 0, 1);
        x.wish(1, false);
        x.drawn(0);
        share("passes by as many", x.passes(0), x.passes(1), 0, 1);
        due("passes which 2", x.passes(2), LoserDraws.LOST);
        due("passes which -1", x.passes(-1), LoserDraws.LOST);
        due("passes without a REPUBLIC", new LoserDraws().passes(0), LoserDraws.LOST);
    }

    // Promise 12
    private static void buy() {
        LoserDraws x = of("l12;c105y;m300n;c999n");
        // 18 SLIPS: 0 has 1. With k more 0 is FREE by 1 + k out of 18 + k.
        due("buy what they have", x.buy(0, 1, 18), 0);
        due("buy one", x.buy(0, 2, 19), 1);
        due("buy two", x.buy(0, 3, 20), 2);
        due("buy more than that", x.buy(0, 4, 21), NONE);
        due("buy without GEESE", x.buy(1, 9, 18), NONE);
        due("buy nothing without GEESE", x.buy(1, 8, 18), 0);
        due("buy 20", x.buy(2, 29, 38), 20);
        due("buy 21", x.buy(2, 30, 39), NONE);
        due("a MISER's makes 1 SLIP too", of("l12;c100y;m320n").buy(1, 10, 11), 2);
        due("buy 999 by 999", x.buy(2, 999, 999), NONE);
        due("buy upper 0", x.buy(0, 0, 999), 0);
        due("buy upper -1", x.buy(0, -1, 1), OUTSIDE);
        due("buy upper 1000", x.buy(0, 1000, 999), OUTSIDE);
        due("buy lower 0", x.buy(0, 0, 0), OUTSIDE);
        due("buy lower 1000", x.buy(0, 0, 1000), OUTSIDE);
        due("buy UNKNOWN first", x.buy(3, -1, 0), UNKNOWN);
        due("buy(-1)", x.buy(-1, 0, 1), UNKNOWN);
        due("buying changes nothing", x.many(1) * 1000 + x.ofCitizen(2, 2), 18099);
        // Two SLIPS of 6 that are drawn: all are FREE; 5 more and it is sure no longer.
        due("buy for sure", of("l61;c199y;c100n").buy(0, 1, 1), 0);
    }

    // Promise 13
    private static void lend() {
        LoserDraws x = of("l11;c200y;c100n;c100n");
        // Now: it never passes; nobody can change that.
        due("lend in vain", x.lend(0), NONE);
        LoserDraws y = of("l11;c200y;c100n;m100n;c100y");
        // It passes if one of 1, 2 is drawn: 5 of 8 now.
        due("lend to the MISER", y.lend(0), 2);
        due("lend changes nothing", y.many(1) * 10 + y.ofCitizen(0, 1), 82);
        due("lend but one", y.lend(1), STATE);
        due("lend of several the least", of("l11;c200y;c100n;c100n;c100y").lend(0), 1);
        due("lend to one behind", of("l11;c100y;m100n;c300y;c100n").lend(2), 1);
        due("lend alone", of("l11;c200y").lend(0), NONE);
        due("lend(4)", y.lend(4), UNKNOWN);
        due("lend(-1)", y.lend(-1), UNKNOWN);
        // Here the products of two shares go beyond 2 to the 63rd.
        LoserDraws z = of("l61;m999y;m999y;m999y;m999n;m999n;m999n");
        due("lend among many", z.lend(0), 3);
        due("lend among many, back", z.lend(3), NONE);
        due("a tenth ticket may come", of("l11;c200y;c100y;c900n;c100n").lend(0), 2);
    }

    // Promise 14
    private static void least() {
        LoserDraws x = of("l02;c310n;c105n;c320y");
        due("least GEESE", x.least(0), 7);
        due("least who", x.least(1), 1);
        x.wish(1, true);
        due("least of none", x.least(0), 0);
        due("nobody for none", x.least(1), NONE);
        x.wish(1, false);
        x.wish(2, false);
        due("least can't be", x.least(0), NONE);
        due("nobody can be", x.least(1), NONE);
        due("least leaves WISHES", x.ofCitizen(0, 3) + x.ofCitizen(1, 3) + x.ofCitizen(2, 3), 0);
        LoserDraws y = of("l02;c310n;c212n;c520y");
        due("of several the least", y.least(1), 0);
        due("of several, GEESE", y.least(0), 16);
        y.price(1);
        due("a lower PRICE", y.least(0), 13);
        // Just one half is enough: one of two SLIPS is drawn, the other RULES.
        due("one half", of("l11;c100y;c100n").least(0), 0);
        due("below one half", of("l11;c200y;c100n").least(0), 1);
        due("least(2)", x.least(2), OUTSIDE);
        due("least(-1)", new LoserDraws().least(-1), OUTSIDE);
        due("least without a REPUBLIC", new LoserDraws().least(1), STATE);
    }

    // Promise 15
    private static void reading() {
        LoserDraws x = new LoserDraws();
        due("reading STATE first", x.reading(-1), STATE);
        tell(x, "l11;c100y;c200n");
        for (int k = 0; k < 8; k++) {
            due("many READINGS", x.many(4), k);
            due("reading", x.reading(k % 4), k);
        }
        due("reading FULL", x.reading(0), FULL);
        due("reading OUTSIDE ahead of FULL", x.reading(4), OUTSIDE);
        due("reading(-1)", x.reading(-1), OUTSIDE);
        due("many READINGS", x.many(4), 8);
    }

    // Promise 16
    private static void back() {
        LoserDraws x = of("l11;c100y;c200n");
        x.reading(1);
        x.reading(2);
        x.reading(3);
        due("counts by all three", x.counts(), 0);
        due("back(4)", x.back(4), OUTSIDE);
        due("back(-1)", x.back(-1), OUTSIDE);
        due("back(0)", x.back(0), 3);
        due("back(1)", x.back(1), 2);
        due("counts by two", x.counts(), 2);
        due("back(1)", x.back(1), 1);
        due("counts by the first", x.counts(), 6);
        due("reading again", x.reading(2), 1);
        due("back(2)", x.back(2), 0);
        due("counts by none", x.counts(), 127);
    }

    // Promise 17
    private static void tickets() {
        LoserDraws x = of("l31;c100y;r100n;m200y");
        due("tickets by no READING", x.tickets(0), 1022);
        x.reading(6);
        // All three are 0's: they need three.
        due("tickets(0)", x.tickets(0), 1022 - 2 - 4);
        due("tickets(1) can't help", x.tickets(1), 0);
        x.back(1);
        x.reading(5);
        due("tickets(1): a RICH has one SLIP more", x.tickets(1), 1022 - 2);
        x.back(1);
        x.reading(3);
        due("tickets(2): a MISER twice", x.tickets(2), 1022);
        x.drawn(6);
        due("tickets(2) of 6", x.tickets(2), 1022 - 2);
        x.reading(2);
        due("tickets by two READINGS", x.tickets(2), 1022 - 2);
        x.reading(7);
        due("tickets by what can't be", x.tickets(2), 0);
        due("TICKETS are as they were", x.ofCitizen(2, 1), 2);
        due("tickets(3)", x.tickets(3), UNKNOWN);
        due("tickets(-1)", x.tickets(-1), UNKNOWN);
        // Fewer SLIPS than are DRAWN: all come.
        LoserDraws y = of("l61;c100y;c100n");
        y.reading(0);
        due("tickets where all come", y.tickets(0), 1022);
        y.reading(2);
        due("tickets where 1 must have none", y.tickets(0), 1022 - 62);
    }

    // Promise 18
    private static void kinds() {
        LoserDraws x = of("l31;c200y;c100n;c900y");
        due("kinds by no READING", x.kinds(0), 7);
        x.reading(6);
        due("kinds(0)", x.kinds(0), 6);
        due("kinds(1) can't help", x.kinds(1), 0);
        x.drawn(4);
        due("kinds(0) of 4", x.kinds(0), 4);
        x.reading(4);
        due("kinds by two READINGS", x.kinds(0), 4);
        due("kinds are as they were", x.ofCitizen(0, 0), 0);
        due("kinds(3)", x.kinds(3), UNKNOWN);
        due("kinds(-1)", x.kinds(-1), UNKNOWN);
    }

    // Promise 19
    private static void counts() {
        LoserDraws x = of("l01;c200y;c100n;c200y");
        due("counts by no READING", x.counts(), 127);
        x.reading(7);
        due("counts: all RULED", x.counts(), 1);
        x.back(1);
        x.reading(4);
        due("counts: two were FREE", x.counts(), 4 + 8);
        x.reading(6);
        due("counts by two READINGS", x.counts(), 4);
        x.back(2);
        x.reading(0);
        due("counts: all were FREE, 6 of 5, too", x.counts(), 8 + 16 + 32 + 64);
        due("DRAWN is as it was", x.many(2), 0);
        due("counts without a REPUBLIC", new LoserDraws().counts(), STATE);
    }

    // Promise 20
    private static void sheet() {
        LoserDraws x = new LoserDraws();
        for (int k = 0; k < 4; k++) {
            due("sheet of 60", x.sheet(k, k % 3, 60), 1);
            for (int i = 0; i < 60; i++) due("0 at first", x.cell(k, i, k % 3), 0);
            due("put at 59", x.put(k, 59, 1), 1);
            due("put at 60", x.put(k, 60, 1), INDEX);
        }
        due("a new row", x.sheet(3, 2, 60), 1);
        due("is 0 again", x.cell(3, 59, 2), 0);
        due("sheet of 0", x.sheet(3, 1, 0), 1);
        due("put there", x.put(3, 0, 1), INDEX);
        due("sheet of -1", x.sheet(2, 0, -1), SIZE);
        fault("sheet of -1", x, 4);
        due("changes nothing", x.cell(2, 59, 2), 1);
        due("sheet of MIN", x.sheet(2, 0, LEAST), SIZE);
        due("sheet of 61", x.sheet(2, 0, 61), OUTSIDE);
        fault("sheet of 61", x, 0);
        due("sheet lane 3 of -1", x.sheet(2, 3, -1), OUTSIDE);
        due("sheet lane -1", x.sheet(2, -1, 1), OUTSIDE);
        due("sheet 4", x.sheet(4, 3, 61), UNKNOWN);
        due("sheet -1", x.sheet(-1, 0, 1), UNKNOWN);
        due("changes nothing", x.cell(2, 59, 2), 1);
    }

    // Promise 21
    private static void lose() {
        LoserDraws x = new LoserDraws();
        due("lose nothing", x.lose(3), 0);
        x.sheet(3, 0, 0);
        due("lose", x.lose(3), 1);
        due("lose again", x.lose(3), 0);
        due("put to nothing", x.put(3, 0, 1), NULL);
        due("lose(4)", x.lose(4), UNKNOWN);
        due("lose(-1)", x.lose(-1), UNKNOWN);
        fault("lose, that names none", x, 1);
    }

    // Promise 22
    private static void put() {
        LoserDraws x = new LoserDraws();
        int[] values = {0, 1, -1, 127, 128, 255, 256, -129, 32767, 32768, 70001, MOST, LEAST};
        for (int lane = 0; lane < 3; lane++) {
            x.sheet(lane, lane, 2);
            for (int v : values) {
                due("put", x.put(lane, 1, v), 1);
                due("cut to lane " + lane, x.cell(lane, 1, lane), lane == 0 ? (byte) v : lane == 1 ? (short) v : v);
                due("its neighbour", x.cell(lane, 0, lane), 0);
            }
        }
        due("put at 2", x.put(0, 2, 1), INDEX);
        fault("put at 2", x, 3);
        due("put at -1", x.put(0, -1, 1), INDEX);
        due("put at MIN", x.put(0, LEAST, 1), INDEX);
        due("put to nothing", x.put(3, 9, 1), NULL);
        fault("put to nothing", x, 1);
        due("put to 4", x.put(4, 0, 1), UNKNOWN);
        fault("put to 4", x, 0);
        due("put to -1", x.put(-1, 0, 1), UNKNOWN);
        due("put", x.put(0, 0, 1), 1);
        fault("put", x, 0);
    }

    // Promise 23
    private static void cell() {
        LoserDraws x = new LoserDraws();
        x.sheet(1, 1, 3);
        x.put(1, 2, -5);
        due("cell", x.cell(1, 2, 1), -5);
        fault("cell", x, 0);
        long lost = LoserDraws.LOST;
        int[][] calls = {{1, 3, 1, 3}, {1, -1, 1, 3}, {1, 3, 2, 2}, {1, 0, 0, 2}, {0, 9, 1, 1},
            {4, 0, 1, 0}, {1, 3, 1, 3}, {-1, 0, 1, 0}, {1, 3, 1, 3}, {1, 0, 3, 0}, {1, MOST, 1, 3}, {0, 0, -1, 0}};
        for (int[] c : calls) {
            due("cell(" + c[0] + ", " + c[1] + ", " + c[2] + ")", x.cell(c[0], c[1], c[2]), lost);
            fault("cell(" + c[0] + ", " + c[1] + ", " + c[2] + ")", x, c[3]);
        }
    }

    // Promise 24
    private static void copy() {
        LoserDraws x = new LoserDraws();
        x.sheet(0, 2, 5);
        x.sheet(1, 2, 3);
        for (int i = 0; i < 5; i++) x.put(0, i, 100000 + i);
        due("copy", x.copy(0, 3, 1, 1, 2), 2);
        fault("copy", x, 0);
        for (int i = 0; i < 3; i++) due("copied", x.cell(1, i, 2), i == 0 ? 0 : 100002 + i);
        due("copy ahead on itself", x.copy(0, 0, 0, 1, 4), 4);
        for (int i = 0; i < 5; i++) due("as they were", x.cell(0, i, 2), 100000 + (i == 0 ? 0 : i - 1));
        due("copy back on itself", x.copy(0, 1, 0, 0, 4), 4);
        for (int i = 0; i < 5; i++) due("as they were", x.cell(0, i, 2), 100000 + (i == 4 ? 3 : i));
        due("copy of none at the ends", x.copy(0, 5, 1, 3, 0), 0);
        x.sheet(0, 2, 1);
        due("what came stays", x.cell(1, 2, 2), 100004);
    }

    private static void copyFaults() {
        LoserDraws x = new LoserDraws();
        x.sheet(0, 2, 5);
        x.sheet(1, 2, 3);
        x.sheet(2, 1, 9);
        int[][] calls = {
            // k, i, other, j, n, answer
            {4, 0, 3, 0, 0, UNKNOWN}, {3, 0, 4, 0, 0, UNKNOWN}, {-1, 0, 0, 0, 0, UNKNOWN}, {0, 0, -1, 0, 0, UNKNOWN},
            {3, 0, 0, 0, 0, NULL}, {0, 9, 3, 0, 0, NULL}, {0, 9, 2, 0, 0, CAST}, {2, 0, 0, 0, -1, CAST},
            {0, 6, 1, 0, 0, INDEX}, {0, 0, 1, 4, 0, INDEX}, {0, -1, 1, 0, 1, INDEX}, {0, 0, 1, -1, 1, INDEX},
            {0, 0, 1, 0, -1, INDEX}, {0, 0, 1, 0, 4, INDEX}, {1, 1, 0, 0, 3, INDEX}, {0, MOST, 1, 0, 1, INDEX},
            {0, 1, 1, 0, MOST, INDEX}, {0, 0, 1, MOST, 1, INDEX}, {0, 0, 1, 0, LEAST, INDEX}};
        for (int[] c : calls) {
            String name = "copy(" + c[0] + ", " + c[1] + ", " + c[2] + ", " + c[3] + ", " + c[4] + ")";
            due(name, x.copy(c[0], c[1], c[2], c[3], c[4]), c[5]);
            fault(name, x, c[5] == UNKNOWN ? 0 : -10 - c[5]);
        }
    }

    // Promises 25, 28
    private static void tellAndTrace() {
        LoserDraws x = of("l11;c700y;r800n;m900y");
        due("tell a CITIZEN", x.tell(0), 7);
        int trace = 1;
        due("trace of a CITIZEN", x.trace(), trace);
        due("tell a RICH", x.tell(1), 108);
        trace = (trace * 31 + 2) * 31 + 1;
        due("trace of a RICH", x.trace(), trace);
        due("tell a MISER", x.tell(2), 118);
        trace = (((trace * 31 + 3) * 31 + 2) * 31 + 1) * 31 + 1;
        due("trace of a MISER", x.trace(), trace);
        due("tell(3)", x.tell(3), UNKNOWN);
        due("tell(-1)", x.tell(-1), UNKNOWN);
        due("trace of a refusal", x.trace(), trace);
        for (int k = 0; k < 20; k++) {
            x.tell(0);
            trace = trace * 31 + 1;
        }
        due("trace wraps", x.trace(), trace);
        due("trace, asked again", x.trace(), trace);
        tell(x, FOUR);
        due("trace behind another TEXT", x.trace(), trace);
    }

    // Promise 26
    private static void call() {
        LoserDraws x = of("l11;c700y;m800n;r900y;m100y");
        due("call a CITIZEN", x.call(0), 0);
        due("trace", x.trace(), 4);
        due("call a MISER", x.call(1), 20);
        due("trace", x.trace(), 4 * 31 + 5);
        due("call a RICH", x.call(2), 2);
        due("trace", x.trace(), (4 * 31 + 5) * 31 + 4);
        due("call(4)", x.call(4), UNKNOWN);
        due("call(-1)", x.call(-1), UNKNOWN);
        due("trace", x.trace(), (4 * 31 + 5) * 31 + 4);
    }

    // Promise 27
    private static void as() {
        LoserDraws x = of("l11;c700y;r800n;m900y");
        for (int c = 0; c < 3; c++) {
            for (int kind = 0; kind < 3; kind++) {
                due("as(" + c + ", " + kind + ")", x.as(c, kind), kind <= c ? 1 : CAST);
                fault("as(" + c + ", " + kind + ")", x, kind <= c ? 0 : 2);
            }
        }
        due("as UNKNOWN first", x.as(3, 3), UNKNOWN);
        due("as(-1)", x.as(-1, 0), UNKNOWN);
        x.as(0, 2);
        due("as kind 3", x.as(0, 3), OUTSIDE);
        fault("as kind 3", x, 0);
        due("as kind -1", x.as(0, -1), OUTSIDE);
        due("as leaves no trace", x.trace(), 0);
    }

    // Promise 29
    private static void fault() {
        LoserDraws x = of(FOUR);
        due("a FAULT", x.as(0, 2), CAST);
        // These name no FAULTS and leave it, whatever they answer.
        x.ofCitizen(9, 9);
        x.drawn(3);
        x.price(0);
        x.wish(9, true);
        x.rules(0, 0);
        x.just(0, 0);
        x.mean(5);
        x.passes(0);
        x.buy(0, 1, 2);
        x.lend(9);
        x.least(0);
        x.reading(1);
        x.back(1);
        x.tickets(0);
        x.kinds(9);
        x.counts();
        x.lose(9);
        x.tell(0);
        x.call(9);
        x.trace();
        x.many(9);
        x.fault();
        fault("others", x, 2);
        x.put(0, 0, 1);
        fault("put", x, 0);
        due("a FAULT", x.put(0, 60, 1), INDEX);
        x.draw(0, 2, 0, 0, 0);
        fault("draw", x, 0);
        x.put(0, 60, 1);
        x.cell(0, 0, 2);
        fault("cell", x, 0);
        x.put(0, 60, 1);
        x.copy(0, 0, 0, 0, 0);
        fault("copy", x, 0);
        x.put(0, 60, 1);
        x.sheet(1, 0, 1);
        fault("sheet", x, 0);
        x.put(0, 60, 1);
        x.republic(0, 2, 0, 0);
        fault("republic", x, 0);
        x.put(0, 60, 1);
        x.copy(0, 0, 4, 0, 0);
        fault("copy, refused", x, 0);
    }

    // Promise 30
    private static void many() {
        LoserDraws x = of("l45;c700y;r800n;m900y");
        x.reading(0);
        int[] want = {3, 7 + 9 + 20, 4, 5, 1};
        for (int what = 0; what < 5; what++) due("many(" + what + ")", x.many(what), want[what]);
        due("many(5)", x.many(5), OUTSIDE);
        due("many(-1)", x.many(-1), OUTSIDE);
    }
}
