import java.math.BigInteger;
import java.util.ArrayList;
import java.util.Arrays;
import java.util.List;
import java.util.Random;
import java.util.regex.Pattern;

/**
 * Runs of calls by fixed seeds, each compared with a plain model of the document. The model goes other
 * ways than the class: real rows, casts and overrides, draws that are counted one by one (or, where
 * they are too many, by taking sets in and out), numbers without a bound.
 */
public final class ModelTest {
    private static final int RUNS = 400, CALLS = 512, LONGEST = 60;

    private static int wrong = 0;

    public static void main(String[] args) {
        for (int run = 0; run < RUNS && wrong == 0; run++) {
            new Run(run).go();
        }
        System.out.println(wrong == 0 ? "all runs go as the model's" : "a run goes another way than the model's");
        if (wrong != 0) System.exit(1);
    }

    /** One run: the last calls are kept, so that the one that goes wrong can be understood. */
    private static final class Run {
        private final int number;
        private final Random random;
        private final LoserDraws x = new LoserDraws();
        private final Model m = new Model();
        private final List<String> said = new ArrayList<>();
        private int calls = 0;

        private Run(int number) {
            this.number = number;
            this.random = new Random(number);
        }

        private void due(String call, long got, long want) {
            calls++;
            said.add(call + " -> " + got);
            if (got == want) return;
            wrong++;
            System.out.println("run " + number + ":");
            for (String s : said) System.out.println("  " + s);
            System.out.println("  due is " + want);
        }

        private int pick(int from, int to) {
            return from + random.nextInt(to - from + 1);
        }

        private boolean seldom() {
            return random.nextInt(12) == 0;
        }

        /** Mostly a number that the call takes, seldom one beside it or far away. */
        private int number(int from, int to) {
            if (!seldom() && to >= from) return pick(from, to);
            int[] odd = {from - 1, to + 1, -1, 0, Integer.MIN_VALUE, Integer.MAX_VALUE, pick(-70, 70)};
            return odd[random.nextInt(odd.length)];
        }

        private void go() {
            while (calls < CALLS && wrong == 0) {
                boolean roomForRows = calls < CALLS - LONGEST;
                if (roomForRows && (random.nextInt(25) == 0 || calls == 0 && random.nextInt(8) != 0)) text();
                else if (roomForRows && random.nextInt(12) == 0) slips();
                else any();
            }
        }

        private void put(int k, int i, int v) {
            due("put(" + k + ", " + i + ", " + v + ")", x.put(k, i, v), m.put(k, i, v));
        }

        private void sheet(int k, int lane, int n) {
            due("sheet(" + k + ", " + lane + ", " + n + ")", x.sheet(k, lane, n), m.sheet(k, lane, n));
        }

        private void text() {
            StringBuilder s = new StringBuilder("l").append(pick(0, 6)).append(pick(1, 9));
            int people = pick(1, random.nextInt(10) == 0 ? 7 : 6);
            int kinds = pick(0, 3);
            int most = random.nextBoolean() ? 9 : 3;
            for (int c = 0; c < people; c++) {
                int kind = kinds == 3 ? pick(0, 2) : kinds;
                s.append(';').append("crm".charAt(kind)).append(pick(1, most));
                s.append(pick(0, 9)).append(pick(0, 9)).append(random.nextBoolean() ? 'y' : 'n');
            }
            if (seldom()) s.setCharAt(random.nextInt(s.length()), (char) number(47, 123));
            if (seldom()) s.setLength(random.nextInt(s.length()));
            int k = pick(0, 3);
            int lane = pick(0, 2);
            int ahead = pick(0, 3);
            sheet(k, lane, s.length() + ahead);
            for (int i = 0; i < s.length(); i++) put(k, i + ahead, s.charAt(i));
            republic(k, lane, ahead, s.length());
        }

        private void republic(int k, int lane, int i, int n) {
            due("republic(" + k + ", " + lane + ", " + i + ", " + n + ")",
                x.republic(k, lane, i, n), m.republic(k, lane, i, n));
        }

        private void slips() {
            int k = pick(0, 3);
            int lane = pick(0, 2);
            int n = pick(0, 21);
            sheet(k, lane, n);
            for (int i = 0; i < n; i++) put(k, i, number(0, Math.max(0, m.slips() - 1)));
            draw(k, lane, 0, Math.min(n, pick(0, 7)));
        }

        private void draw(int k, int lane, int i, int n) {
            int what = number(0, 2);
            due("draw(" + k + ", " + lane + ", " + i + ", " + n + ", " + what + ")",
                x.draw(k, lane, i, n, what), m.draw(k, lane, i, n, what));
        }

        private void any() {
            int c = number(0, Math.max(0, m.people.size() - 1));
            int k = number(0, 3);
            int lane = random.nextInt(3) == 0 ? number(0, 2) : m.laneOf(k);
            int i = number(0, m.lengthOf(k));
            int n = number(0, Math.max(0, Math.min(20, m.lengthOf(k) - i)));
            int which = number(0, 1);
            int set = number(0, (1 << m.people.size()) - 1);
            int v = random.nextInt();
            int small = number(0, 6);
            boolean is = random.nextBoolean();
            switch (random.nextInt(32)) {
                case 0: republic(k, lane, i, n); break;
                case 1: due("ofCitizen(" + c + ", " + small + ")", x.ofCitizen(c, small), m.ofCitizen(c, small)); break;
                case 2: due("drawn(" + small + ")", x.drawn(small), m.drawn(small)); break;
                case 3: v = number(1, 9); due("price(" + v + ")", x.price(v), m.price(v)); break;
                case 4: due("wish(" + c + ", " + is + ")", x.wish(c, is), m.wish(c, is)); break;
                case 5: draw(k, lane, i, n); break;
                case 6: due("rules(" + c + ", " + which + ")", x.rules(c, which), m.rules(c, which)); break;
                case 7: due("just(" + set + ", " + which + ")", x.just(set, which), m.just(set, which)); break;
                case 8: due("mean(" + which + ")", x.mean(which), m.mean(which)); break;
                case 9: due("passes(" + which + ")", x.passes(which), m.passes(which)); break;
                case 10: case 11: buy(c); break;
                case 12: case 13: due("lend(" + c + ")", x.lend(c), m.lend(c)); break;
                case 14: case 15: due("least(" + which + ")", x.least(which), m.least(which)); break;
                case 16: due("reading(" + set + ")", x.reading(set), m.reading(set)); break;
                case 17: v = number(0, m.readings.size()); due("back(" + v + ")", x.back(v), m.back(v)); break;
                case 18: due("tickets(" + c + ")", x.tickets(c), m.tickets(c)); break;
                case 19: due("kinds(" + c + ")", x.kinds(c), m.kinds(c)); break;
                case 20: due("counts()", x.counts(), m.counts()); break;
                case 21: sheet(k, lane, number(0, 60)); break;
                case 22: due("lose(" + k + ")", x.lose(k), m.lose(k)); break;
                case 23: put(k, i, v); break;
                case 24: due("cell(" + k + ", " + i + ", " + lane + ")", x.cell(k, i, lane), m.cell(k, i, lane)); break;
                case 25: copy(k, i, n); break;
                case 26: due("tell(" + c + ")", x.tell(c), m.tell(c)); break;
                case 27: due("call(" + c + ")", x.call(c), m.call(c)); break;
                case 28: v = number(0, 2); due("as(" + c + ", " + v + ")", x.as(c, v), m.as(c, v)); break;
                case 29: due("trace()", x.trace(), m.trace); break;
                case 30: due("fault()", x.fault(), m.fault); break;
                default: v = number(0, 4); due("many(" + v + ")", x.many(v), m.many(v)); break;
            }
            if (calls < CALLS && random.nextInt(3) == 0) due("fault()", x.fault(), m.fault);
        }

        private void buy(int c) {
            int lower = random.nextBoolean() ? number(1, 999) : pick(1, 20);
            int upper = random.nextBoolean() ? number(0, 999) : pick(0, Math.max(0, Math.min(lower, 999)));
            due("buy(" + c + ", " + upper + ", " + lower + ")", x.buy(c, upper, lower), m.buy(c, upper, lower));
        }

        private void copy(int k, int i, int n) {
            int other = number(0, 3);
            int j = number(0, m.lengthOf(other));
            due("copy(" + k + ", " + i + ", " + other + ", " + j + ", " + n + ")",
                x.copy(k, i, other, j, n), m.copy(k, i, other, j, n));
        }
    }

    private interface Called {
        default int called(Model m, int number) {
            m.leave(4);
            return number;
        }
    }

    private static class Citizen implements Called {
        protected int tickets;
        protected int geese;
        protected boolean wishes;

        int kind() {
            return 0;
        }

        int slips() {
            return tickets;
        }

        static int tellsCitizen(Model m, Citizen c) {
            m.leave(1);
            return c.tickets;
        }

        int tells(Model m) {
            return tellsCitizen(m, this);
        }

        Citizen like(int newTickets) {
            return of(kind(), newTickets, geese, wishes);
        }

        static Citizen of(int kind, int tickets, int geese, boolean wishes) {
            Citizen c = kind == 2 ? new Miser() : kind == 1 ? new Rich() : new Citizen();
            c.tickets = tickets;
            c.geese = geese;
            c.wishes = wishes;
            return c;
        }
    }

    private static class Rich extends Citizen {
        @Override int kind() {
            return 1;
        }

        @Override int slips() {
            return super.slips() + 1;
        }

        @Override int tells(Model m) {
            m.leave(2);
            return super.tells(m) + 100;
        }
    }

    private static final class Miser extends Rich {
        @Override int kind() {
            return 2;
        }

        @Override int slips() {
            return super.slips() * 2;
        }

        @Override int tells(Model m) {
            m.leave(3);
            return super.tells(m) + tellsCitizen(m, this);
        }

        @Override public int called(Model m, int number) {
            m.leave(5);
            return 20;
        }
    }

    /** A share; the lower number is above 0. */
    private record Share(BigInteger upper, BigInteger lower) implements Comparable<Share> {
        @Override public int compareTo(Share o) {
            return upper.multiply(o.lower).compareTo(o.upper.multiply(lower));
        }

        long part(int which) {
            return (which == 0 ? upper : lower).divide(upper.gcd(lower)).longValueExact();
        }
    }

    private static final class Model {
        private static final BigInteger[][] PASCAL = pascal();

        private List<Citizen> people = new ArrayList<>();
        private List<Integer> readings = new ArrayList<>();
        private final Object[] sheets = new Object[4];
        private int drawn, price, trace, fault;

        private static BigInteger[][] pascal() {
            BigInteger[][] p = new BigInteger[160][8];
            for (int n = 0; n < p.length; n++) {
                for (int k = 0; k < 8; k++) {
                    p[n][k] = k == 0 ? BigInteger.ONE : n == 0 ? BigInteger.ZERO : p[n - 1][k].add(p[n - 1][k - 1]);
                }
            }
            return p;
        }

        private void leave(int body) {
            trace = 31 * trace + body;
        }

        private boolean isCitizen(int c) {
            return 0 <= c && c < people.size();
        }

        private static boolean isSheet(int k) {
            return 0 <= k && k <= 3;
        }

        private int laneOf(int k) {
            if (!isSheet(k)) return 0;
            return sheets[k] instanceof byte[] ? 0 : sheets[k] instanceof short[] ? 1 : 2;
        }

        private int lengthOf(int k) {
            return isSheet(k) && sheets[k] != null ? java.lang.reflect.Array.getLength(sheets[k]) : 0;
        }

        private int slips() {
            return people.stream().mapToInt(Citizen::slips).sum();
        }

        // ---- what the machine says

        private int faulted(RuntimeException e) {
            if (e instanceof NullPointerException) fault = 1;
            else if (e instanceof ClassCastException || e instanceof ArrayStoreException) fault = 2;
            else if (e instanceof IndexOutOfBoundsException) fault = 3;
            else if (e instanceof NegativeArraySizeException) fault = 4;
            else throw e;
            return -10 - fault;
        }

        /** The cells as the machine takes them: cast, look at it, size, index. */
        private static int[] cells(Object sheet, int lane, int i, int n) {
            Object row = lane == 0 ? (byte[]) sheet : lane == 1 ? (short[]) sheet : (int[]) sheet;
            if (row == null) throw new NullPointerException();
            if (n < 0) throw new NegativeArraySizeException();
            java.util.Objects.checkFromIndexSize(i, n, java.lang.reflect.Array.getLength(row));
            int[] cells = new int[n];
            for (int p = 0; p < n; p++) cells[p] = java.lang.reflect.Array.getInt(row, i + p);
            return cells;
        }

        // ---- 1

        private int republic(int sheet, int lane, int i, int n) {
            fault = 0;
            if (!isSheet(sheet)) return -1;
            if (lane < 0 || lane > 2) return -2;
            int[] cells;
            try {
                cells = cells(sheets[sheet], lane, i, n);
            } catch (RuntimeException e) {
                return faulted(e);
            }
            StringBuilder s = new StringBuilder();
            for (int code : cells) s.append(code >= 0 && code < 128 ? (char) code : '?');
            String part = ";[crm][1-9][0-9][0-9][yn]";
            if (!Pattern.matches("l[0-6][1-9](" + part + "){1,6}", s)) return -100 - firstFault(s.toString());
            drawn = s.charAt(1) - '0';
            price = s.charAt(2) - '0';
            readings = new ArrayList<>();
            people = new ArrayList<>();
            for (int p = 3; p < s.length(); p += 6) {
                people.add(Citizen.of("crm".indexOf(s.charAt(p + 1)), s.charAt(p + 2) - '0',
                    Integer.parseInt(s.substring(p + 3, p + 5)), s.charAt(p + 5) == 'y'));
            }
            return people.size();
        }

        /** How long the beginning is that some whole text goes on. */
        private static int firstFault(String s) {
            String whole = "l01" + ";c100y".repeat(6);
            for (int p = 0; p < s.length(); p++) {
                if (p >= whole.length()) return p;
                String tried = s.substring(0, p + 1) + whole.substring(p + 1);
                if (!Pattern.matches("l[0-6][1-9](;[crm][1-9][0-9][0-9][yn]){6}", tried)) return p;
            }
            return s.length();
        }

        private int ofCitizen(int c, int what) {
            if (!isCitizen(c)) return -1;
            if (what < 0 || what > 5) return -2;
            Citizen who = people.get(c);
            int first = people.subList(0, c).stream().mapToInt(Citizen::slips).sum();
            return new int[] {who.kind(), who.tickets, who.geese, who.wishes ? 1 : 0, who.slips(), first}[what];
        }

        private int drawn(int v) {
            if (v < 0 || v > 6) return -2;
            if (people.isEmpty()) return -3;
            int was = drawn;
            drawn = v;
            return was;
        }

        private int price(int v) {
            if (v < 1 || v > 9) return -2;
            if (people.isEmpty()) return -3;
            int was = price;
            price = v;
            return was;
        }

        private int wish(int c, boolean is) {
            if (!isCitizen(c)) return -1;
            boolean was = people.get(c).wishes;
            people.get(c).wishes = is;
            return was == is ? 0 : 1;
        }

        // ---- 2

        /** Out of all draws, how many leave each set to RULE. */
        private static BigInteger[] rulers(List<Citizen> people, int drawn) {
            int[] owner = people.isEmpty() ? new int[0] : new int[people.stream().mapToInt(Citizen::slips).sum()];
            int at = 0;
            for (int c = 0; c < people.size(); c++) {
                for (int k = 0; k < people.get(c).slips(); k++) owner[at++] = c;
            }
            int d = Math.min(drawn, owner.length);
            BigInteger[] out = new BigInteger[1 << people.size()];
            Arrays.fill(out, BigInteger.ZERO);
            if (PASCAL[owner.length][d].compareTo(BigInteger.valueOf(3000)) <= 0) {
                oneByOne(owner, 0, d, out.length - 1, out);
            } else {
                for (int set = 0; set < out.length; set++) out[set] = byInAndOut(people, out.length - 1 - set, d);
            }
            return out;
        }

        private static void oneByOne(int[] owner, int from, int left, int rulers, BigInteger[] out) {
            if (left == 0) {
                out[rulers] = out[rulers].add(BigInteger.ONE);
                return;
            }
            for (int s = from; s <= owner.length - left; s++) {
                oneByOne(owner, s + 1, left - 1, rulers & ~(1 << owner[s]), out);
            }
        }

        private static BigInteger byInAndOut(List<Citizen> people, int free, int d) {
            BigInteger sum = BigInteger.ZERO;
            for (int sub = free; ; sub = (sub - 1) & free) {
                int slips = 0;
                for (int c = 0; c < people.size(); c++) slips += (sub >> c & 1) * people.get(c).slips();
                BigInteger ways = PASCAL[slips][d];
                sum = (Integer.bitCount(free ^ sub) & 1) == 0 ? sum.add(ways) : sum.subtract(ways);
                if (sub == 0) return sum;
            }
        }

        private static BigInteger all(BigInteger[] draws) {
            return Arrays.stream(draws).reduce(BigInteger.ZERO, BigInteger::add);
        }

        private static boolean passesBy(List<Citizen> people, int rulers) {
            int lead = 0;
            for (int c = 0; c < people.size(); c++) {
                if ((rulers >> c & 1) == 1) lead += people.get(c).wishes ? 1 : -1;
            }
            return lead > 0;
        }

        private static Share passing(List<Citizen> people, int drawn) {
            BigInteger[] draws = rulers(people, drawn);
            BigInteger sum = BigInteger.ZERO;
            for (int set = 0; set < draws.length; set++) if (passesBy(people, set)) sum = sum.add(draws[set]);
            return new Share(sum, all(draws));
        }

        private static Share ruling(List<Citizen> people, int drawn, int c) {
            BigInteger[] draws = rulers(people, drawn);
            BigInteger sum = BigInteger.ZERO;
            for (int set = 0; set < draws.length; set++) if ((set >> c & 1) == 1) sum = sum.add(draws[set]);
            return new Share(sum, all(draws));
        }

        private int draw(int sheet, int lane, int i, int n, int what) {
            fault = 0;
            if (!isSheet(sheet)) return -1;
            if (lane < 0 || lane > 2 || n < 0 || n > 20 || what < 0 || what > 2) return -2;
            if (people.isEmpty()) return -3;
            int[] cells;
            try {
                cells = cells(sheets[sheet], lane, i, n);
            } catch (RuntimeException e) {
                return faulted(e);
            }
            List<Integer> drum = new ArrayList<>();
            for (int c = 0; c < people.size(); c++) for (int k = 0; k < people.get(c).slips(); k++) drum.add(c);
            int rulers = (1 << people.size()) - 1;
            for (int p = 0; p < n; p++) {
                if (cells[p] < 0 || cells[p] >= drum.size() || drum.get(cells[p]) < 0) return what == 1 ? p : -100 - p;
                rulers &= ~(1 << drum.set(cells[p], -1));
            }
            return what == 0 ? rulers : what == 1 ? -9 : passesBy(people, rulers) ? 1 : 0;
        }

        private long rules(int c, int which) {
            if (!isCitizen(c) || which < 0 || which > 1) return Long.MIN_VALUE;
            return ruling(people, drawn, c).part(which);
        }

        private long just(int set, int which) {
            if (people.isEmpty() || set < 0 || set >= 1 << people.size() || which < 0 || which > 1) return Long.MIN_VALUE;
            BigInteger[] draws = rulers(people, drawn);
            return new Share(draws[set], all(draws)).part(which);
        }

        private long mean(int which) {
            if (people.isEmpty() || which < 0 || which > 1) return Long.MIN_VALUE;
            BigInteger[] draws = rulers(people, drawn);
            BigInteger sum = BigInteger.ZERO;
            for (int set = 0; set < draws.length; set++) {
                sum = sum.add(draws[set].multiply(BigInteger.valueOf(Integer.bitCount(set))));
            }
            return new Share(sum, all(draws)).part(which);
        }

        private long passes(int which) {
            if (people.isEmpty() || which < 0 || which > 1) return Long.MIN_VALUE;
            return passing(people, drawn).part(which);
        }

        // ---- 3

        private int buy(int c, int upper, int lower) {
            if (!isCitizen(c)) return -1;
            if (upper < 0 || upper > 999 || lower < 1 || lower > 999) return -2;
            Share wanted = new Share(BigInteger.valueOf(lower - upper), BigInteger.valueOf(lower));
            int others = slips() - people.get(c).slips();
            for (int more = 0; more <= 20; more++) {
                if (people.get(c).geese < more * price) return -9;
                int total = slips() + more;
                int d = Math.min(drawn, total);
                if (new Share(PASCAL[others][d], PASCAL[total][d]).compareTo(wanted) <= 0) return more;
            }
            return -9;
        }

        private int lend(int c) {
            if (!isCitizen(c)) return -1;
            if (people.get(c).tickets == 1) return -3;
            Share best = passing(people, drawn);
            int whom = -9;
            for (int to = 0; to < people.size(); to++) {
                if (to == c) continue;
                List<Citizen> then = new ArrayList<>(people);
                then.set(c, people.get(c).like(people.get(c).tickets - 1));
                then.set(to, people.get(to).like(people.get(to).tickets + 1));
                Share share = passing(then, drawn);
                if (share.compareTo(best) > 0) {
                    best = share;
                    whom = to;
                }
            }
            return whom;
        }

        private int least(int what) {
            if (what < 0 || what > 1) return -2;
            if (people.isEmpty()) return -3;
            Share half = new Share(BigInteger.ONE, BigInteger.TWO);
            if (passing(people, drawn).compareTo(half) >= 0) return what == 0 ? 0 : -9;
            int geese = Integer.MAX_VALUE;
            int whom = -9;
            for (int c = 0; c < people.size(); c++) {
                List<Citizen> then = new ArrayList<>(people);
                Citizen who = people.get(c);
                then.set(c, Citizen.of(who.kind(), who.tickets, who.geese, true));
                int paid = who.geese + price * who.tickets;
                if (paid < geese && passing(then, drawn).compareTo(half) >= 0) {
                    geese = paid;
                    whom = c;
                }
            }
            return what == 1 || whom == -9 ? whom : geese;
        }

        // ---- 4

        private int reading(int set) {
            if (people.isEmpty()) return -3;
            if (set < 0 || set >= 1 << people.size()) return -2;
            if (readings.size() == 8) return -4;
            readings.add(set);
            return readings.size() - 1;
        }

        private int back(int k) {
            if (k < 0 || k > readings.size()) return -2;
            readings = new ArrayList<>(readings.subList(0, readings.size() - k));
            return readings.size();
        }

        private boolean canBe(List<Citizen> then, int toDraw) {
            BigInteger[] draws = rulers(then, toDraw);
            return readings.stream().allMatch(set -> draws[set].signum() > 0);
        }

        private int tickets(int c) {
            if (!isCitizen(c)) return -1;
            int set = 0;
            for (int t = 1; t <= 9; t++) {
                List<Citizen> then = new ArrayList<>(people);
                then.set(c, people.get(c).like(t));
                if (canBe(then, drawn)) set |= 1 << t;
            }
            return set;
        }

        private int kinds(int c) {
            if (!isCitizen(c)) return -1;
            int set = 0;
            for (int kind = 0; kind <= 2; kind++) {
                List<Citizen> then = new ArrayList<>(people);
                then.set(c, Citizen.of(kind, people.get(c).tickets, 0, false));
                if (canBe(then, drawn)) set |= 1 << kind;
            }
            return set;
        }

        private int counts() {
            if (people.isEmpty()) return -3;
            int set = 0;
            for (int d = 0; d <= 6; d++) if (canBe(people, d)) set |= 1 << d;
            return set;
        }

        // ---- 5

        private int sheet(int k, int lane, int n) {
            fault = 0;
            if (!isSheet(k)) return -1;
            if (lane < 0 || lane > 2 || n > 60) return -2;
            try {
                sheets[k] = lane == 0 ? new byte[n] : lane == 1 ? new short[n] : new int[n];
            } catch (RuntimeException e) {
                return faulted(e);
            }
            return 1;
        }

        private int lose(int k) {
            if (!isSheet(k)) return -1;
            int had = sheets[k] == null ? 0 : 1;
            sheets[k] = null;
            return had;
        }

        private int put(int k, int i, int v) {
            fault = 0;
            if (!isSheet(k)) return -1;
            try {
                if (sheets[k] instanceof byte[] row) row[i] = (byte) v;
                else if (sheets[k] instanceof short[] row) row[i] = (short) v;
                else ((int[]) sheets[k])[i] = v;
            } catch (RuntimeException e) {
                return faulted(e);
            }
            return 1;
        }

        private long cell(int k, int i, int lane) {
            fault = 0;
            if (!isSheet(k) || lane < 0 || lane > 2) return Long.MIN_VALUE;
            try {
                return lane == 0 ? ((byte[]) sheets[k])[i] : lane == 1 ? ((short[]) sheets[k])[i] : ((int[]) sheets[k])[i];
            } catch (RuntimeException e) {
                faulted(e);
                return Long.MIN_VALUE;
            }
        }

        private int copy(int k, int i, int other, int j, int n) {
            fault = 0;
            if (!isSheet(k) || !isSheet(other)) return -1;
            try {
                System.arraycopy(sheets[k], i, sheets[other], j, n);
            } catch (RuntimeException e) {
                return faulted(e);
            }
            return n;
        }

        private int tell(int c) {
            return isCitizen(c) ? people.get(c).tells(this) : -1;
        }

        private int call(int c) {
            return isCitizen(c) ? people.get(c).called(this, c) : -1;
        }

        private int as(int c, int kind) {
            fault = 0;
            if (!isCitizen(c)) return -1;
            if (kind < 0 || kind > 2) return -2;
            Citizen who = people.get(c);
            try {
                Citizen taken = kind == 2 ? (Miser) who : kind == 1 ? (Rich) who : who;
                return taken == who ? 1 : 0;
            } catch (RuntimeException e) {
                return faulted(e);
            }
        }

        private int many(int what) {
            if (what < 0 || what > 4) return -2;
            return new int[] {people.size(), slips(), drawn, price, readings.size()}[what];
        }
    }
}
