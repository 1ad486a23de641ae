import java.util.ArrayList;
import java.util.List;

/**
 * The document once more, in another and plainer form than the class: kinds
 * as classes under one another, ways by trying all rows of masters, texts by
 * splitting them at their loosest sign. ModelTest plays it beside the class.
 */
final class Plain {
    static final int BAD = -1000000001;
    static final int NO = -1000000002;
    static final int FULL = -1000000003;
    static final int NONE = -1000000005;
    static final int NOTHING = -1000000011;
    static final int KIND = -1000000012;
    static final int INDEX = -1000000013;
    static final int SIZE = -1000000014;

    /** A refusal, thrown where it is found. */
    static final class Refused extends RuntimeException {
        private static final long serialVersionUID = 1L;
        final int answer;

        Refused(int answer) {
            super(null, null, false, false);
            this.answer = answer;
        }
    }

    static class Kind {
        int takes(int plain, int age) {
            return plain;
        }

        boolean teaches(int barred, int known) {
            return barred == 0;
        }

        int worth(int fee) {
            return fee;
        }

        int unlearns(int bars) {
            return 0;
        }
    }

    static class Strict extends Kind {
        @Override
        int takes(int plain, int age) {
            return 2 * super.takes(plain, age);
        }

        @Override
        int worth(int fee) {
            return super.worth(fee) + 11;
        }
    }

    static final class Stern extends Strict {
        @Override
        int takes(int plain, int age) {
            return super.takes(plain, age) + age / 10;
        }

        @Override
        boolean teaches(int barred, int known) {
            return super.teaches(barred, known) && known >= 3;
        }

        @Override
        int worth(int fee) {
            return 2 * super.worth(fee);
        }
    }

    static class Gentle extends Kind {
        @Override
        int takes(int plain, int age) {
            return Math.max(1, super.takes(plain, age) - 1);
        }

        @Override
        boolean teaches(int barred, int known) {
            return true;
        }

        @Override
        int worth(int fee) {
            return 99 - fee;
        }

        @Override
        int unlearns(int bars) {
            return bars;
        }
    }

    static final class Mild extends Gentle {
        @Override
        int takes(int plain, int age) {
            return Math.max(1, super.takes(plain, age) / 2);
        }

        @Override
        int worth(int fee) {
            return super.worth(fee) - 4;
        }

        @Override
        int unlearns(int bars) {
            return 0;
        }
    }

    static final class Sly extends Kind {
        @Override
        int takes(int plain, int age) {
            return 1;
        }

        @Override
        boolean teaches(int barred, int known) {
            return barred < 2;
        }

        @Override
        int worth(int fee) {
            return 8;
        }
    }

    static final Kind[] KINDS = {new Kind(), new Strict(), new Gentle(), new Stern(), new Mild(), new Sly()};

    record Master(int kind, int town, int gesture, int bars, int fee, int age, boolean dead) {
        Kind own() {
            return KINDS[kind];
        }

        boolean isA(int asked) {
            return KINDS[asked].getClass().isInstance(own());
        }

        boolean teaches(int known) {
            return own().teaches(Integer.bitCount(known & bars), Integer.bitCount(known));
        }

        Master withDead(boolean is) {
            return new Master(kind, town, gesture, bars, fee, age, is);
        }

        Master withAge(int years) {
            return new Master(kind, town, gesture, bars, fee, years, dead);
        }

        Master withFee(int coins) {
            return new Master(kind, town, gesture, bars, coins, age, dead);
        }

        Master withKind(int other) {
            return new Master(other, town, gesture, bars, fee, age, dead);
        }

        Master withBars(int set) {
            return new Master(kind, town, gesture, set, fee, age, dead);
        }
    }

    record Known(int gesture, int from, int rest) {
    }

    record Law(int key, List<String> words) {
    }

    /** All that an image keeps. */
    static final class State {
        List<Master> masters = new ArrayList<>();
        int[][] roads = new int[6][6];
        int z = 1;
        int at;
        List<Known> known = new ArrayList<>();
        int coins = 100;
        int forgets;
        int day;
        List<Integer> chair = new ArrayList<>();
        List<Law> laws = new ArrayList<>();

        State copy() {
            State s = new State();
            s.masters.addAll(masters);
            for (int i = 0; i < 6; i++) {
                s.roads[i] = roads[i].clone();
            }
            s.z = z;
            s.at = at;
            s.known.addAll(known);
            s.coins = coins;
            s.forgets = forgets;
            s.day = day;
            s.chair.addAll(chair);
            s.laws.addAll(laws);
            return s;
        }

        int set() {
            int set = 0;
            for (Known k : known) {
                set |= 1 << k.gesture;
            }
            return set;
        }

        boolean can() {
            for (int g : chair) {
                if ((set() >> g & 1) == 0) {
                    return false;
                }
            }
            return true;
        }

        Law law(int key) {
            Law found = null;
            for (Law l : laws) {
                found = l.key == key ? l : found;
            }
            return found;
        }

        int takes(Master m, int k) {
            Law law = law(0);
            int plain = law == null ? k + 3 : value(law.words, "kga", new int[] {k, m.gesture, m.age});
            return m.own().takes(plain < 1 ? 1 : plain > 99 ? 99 : plain, m.age);
        }

        void pass(int days) {
            day = Math.min(9999, day + days);
            List<Known> left = new ArrayList<>();
            for (Known k : known) {
                Known older = new Known(k.gesture, k.from, k.rest + days);
                if (forgets == 0 || older.rest <= forgets) {
                    left.add(older);
                }
            }
            known = left;
        }

        boolean learn(int number) {
            Master m = masters.get(number);
            if (m.town != at || m.dead || !m.teaches(set()) || (set() >> m.gesture & 1) == 1 || m.fee > coins) {
                return false;
            }
            coins -= m.fee;
            pass(takes(m, known.size()));
            int away = m.own().unlearns(m.bars);
            known.removeIf(k -> (away >> k.gesture & 1) == 1);
            known.add(new Known(m.gesture, number, 0));
            return true;
        }

        void use(int gesture) {
            List<Known> now = new ArrayList<>();
            for (Known k : known) {
                now.add(k.gesture == gesture ? new Known(gesture, k.from, 0) : k);
            }
            known = now;
            pass(1);
        }

        int draw() {
            z = z * 1103515245 + 12345;
            return z >>> 8;
        }

        int year() {
            int died = 0;
            for (int i = 0; i < masters.size(); i++) {
                Master m = masters.get(i);
                if (!m.dead) {
                    boolean dies = draw() % 100 < m.age - 50;
                    died += dies ? 1 : 0;
                    masters.set(i, dies ? m.withDead(true) : m.withAge(Math.min(99, m.age + 1)));
                }
            }
            return died;
        }

        int far(int one, int other) {
            int[] best = {9999, 9999, 9999, 9999, 9999, 9999};
            best[one] = 0;
            for (int turn = 0; turn < 6; turn++) {
                for (int a = 0; a < 6; a++) {
                    for (int b = 0; b < 6; b++) {
                        if (roads[a][b] != 0 && best[a] + roads[a][b] < best[b]) {
                            best[b] = best[a] + roads[a][b];
                        }
                    }
                }
            }
            return best[other];
        }

        int taught() {
            int set = 0;
            for (Master m : masters) {
                set |= m.dead ? 0 : 1 << m.gesture;
            }
            return set;
        }

        int dead() {
            int n = 0;
            for (Master m : masters) {
                n += m.dead ? 1 : 0;
            }
            return n;
        }

        /** Tries all rows of so many masters, one for each gesture. */
        boolean together(int wanted, int known) {
            if (wanted == known) {
                return true;
            }
            for (Master m : masters) {
                boolean fits = (wanted >> m.gesture & 1) == 1 && (known >> m.gesture & 1) == 0;
                if (fits && !m.dead && m.teaches(known)) {
                    int then = known & ~m.own().unlearns(m.bars) | 1 << m.gesture;
                    if (Integer.bitCount(then) == Integer.bitCount(known) + 1 && together(wanted, then)) {
                        return true;
                    }
                }
            }
            return false;
        }

        /** Days, coins and the first master of the best way from here, or null; each way is played on a copy. */
        int[] soonest(int left) {
            if (can()) {
                return new int[] {0, 0, NONE};
            }
            int[] best = null;
            for (int m = 0; m < masters.size() && left > 0; m++) {
                int way = far(at, masters.get(m).town);
                if (way == 9999) {
                    continue;
                }
                State s = copy();
                s.day = 0;
                if (way > 0) {
                    s.pass(way);
                    s.at = masters.get(m).town;
                }
                if (!s.learn(m)) {
                    continue;
                }
                int[] rest = s.soonest(left - 1);
                if (rest != null) {
                    int[] whole = {s.day + rest[0], masters.get(m).fee + rest[1], m};
                    best = best == null || java.util.Arrays.compare(whole, best) < 0 ? whole : best;
                }
            }
            return best;
        }
    }

    State s = new State();
    State image;
    final List<Integer> waiting = new ArrayList<>();
    final List<Integer> tape = new ArrayList<>();
    final double[][] sheets = new double[4][];
    final int[] sorts = new int[4];
    final Object[] slots = new Object[5];

    private static void bad(boolean is) {
        refuse(is, BAD);
    }

    private static void refuse(boolean is, int answer) {
        if (is) {
            throw new Refused(answer);
        }
    }

    private static boolean out(int v, int least, int most) {
        return v < least || v > most;
    }

    private Master at(int m) {
        bad(out(m, 0, s.masters.size() - 1));
        return s.masters.get(m);
    }

    int answer(String call, int[] a) {
        try {
            return switch (call) {
                case "master", "told", "as", "turns", "set", "bars", "road", "far", "deal", "seed" -> guild(call, a);
                case "apprentice", "has", "knows", "go", "learn", "use", "rests" -> apprentice(call, a);
                case "feed", "trim", "text", "textTold", "why" -> texts(call, a);
                case "sheet", "mark", "pour", "reads", "copy", "lay", "ask", "item", "rest" -> sheets(call, a);
                case "tell", "check", "keep", "back", "count" -> rows(call, a);
                default -> chairs(call, a);
            };
        } catch (Refused r) {
            return r.answer;
        }
    }

    private int guild(String call, int[] a) {
        switch (call) {
            case "master":
                bad(out(a[0], 0, 5) || out(a[1], 0, 5) || out(a[2], 0, 9) || out(a[3], 0, 99));
                refuse(s.masters.size() == 9, FULL);
                s.masters.add(new Master(a[0], a[1], a[2], 0, a[3], 40, false));
                return s.masters.size() - 1;
            case "told":
                bad(out(a[1], 0, 9));
                return told(at(a[0]), a[1]);
            case "as":
                bad(out(a[1], 0, 5));
                refuse(!at(a[0]).isA(a[1]), KIND);
                return at(a[0]).fee;
            case "turns":
                bad(out(a[1], 0, 5));
                return change(a[0], at(a[0]).withKind(a[1]), at(a[0]).kind);
            case "set":
                bad(out(a[1], 4, 6) || out(a[2], 0, a[1] == 6 ? 1 : 99));
                Master m = at(a[0]);
                return change(a[0], a[1] == 4 ? m.withFee(a[2]) : a[1] == 5 ? m.withAge(a[2]) : m.withDead(a[2] == 1), told(m, a[1]));
            case "bars":
                bad(out(a[1], 0, 9) || out(a[2], 0, 9) || at(a[0]).gesture == a[1] || at(a[0]).gesture == a[2]);
                return change(a[0], at(a[0]).withBars(1 << a[1] | 1 << a[2]), at(a[0]).bars);
            case "road":
                bad(out(a[0], 0, 5) || out(a[1], 0, 5) || a[0] == a[1] || out(a[2], 0, 9));
                int was = s.roads[a[0]][a[1]];
                s.roads[a[0]][a[1]] = a[2];
                s.roads[a[1]][a[0]] = a[2];
                return was;
            case "far":
                bad(out(a[0], 0, 5) || out(a[1], 0, 5));
                refuse(s.far(a[0], a[1]) == 9999, NONE);
                return s.far(a[0], a[1]);
            case "deal":
                bad(out(a[0], 1, 9));
                int before = s.masters.size();
                while (s.masters.size() < Math.min(9, before + a[0])) {
                    s.masters.add(new Master(s.draw() % 6, s.draw() % 6, s.draw() % 10, 0, s.draw() % 40, 40, false));
                }
                return s.masters.size() - before;
            default:
                int z = s.z;
                s.z = a[0];
                return z;
        }
    }

    private int change(int number, Master becomes, int answer) {
        s.masters.set(number, becomes);
        return answer;
    }

    private int told(Master m, int what) {
        int[] all = {m.kind, m.town, m.gesture, m.bars, m.fee, m.age, m.dead ? 1 : 0, s.takes(m, s.known.size()),
            m.teaches(s.set()) ? 1 : 0, m.own().worth(m.fee)};
        return all[what];
    }

    private int apprentice(String call, int[] a) {
        switch (call) {
            case "apprentice":
                bad(out(a[0], 0, 3));
                return new int[] {s.at, s.set(), s.coins, s.forgets}[a[0]];
            case "has":
                bad(out(a[0], 2, 3) || out(a[1], 0, a[0] == 2 ? 9999 : 99));
                int was = a[0] == 2 ? s.coins : s.forgets;
                s.coins = a[0] == 2 ? a[1] : s.coins;
                s.forgets = a[0] == 3 ? a[1] : s.forgets;
                return was;
            case "knows":
                bad(out(a[0], 0, 9) || out(a[1], 0, 1));
                for (Known k : s.known) {
                    if (k.gesture == a[0]) {
                        return a[1] == 0 ? k.from : k.rest;
                    }
                }
                return NO;
            case "go":
                bad(out(a[0], 0, 5) || a[0] == s.at);
                refuse(s.roads[s.at][a[0]] == 0, NO);
                s.pass(s.roads[s.at][a[0]]);
                s.at = a[0];
                return s.day;
            case "learn":
                at(a[0]);
                refuse(!s.learn(a[0]), NO);
                return s.set();
            case "use":
                bad(out(a[0], 0, 9));
                refuse((s.set() >> a[0] & 1) == 0, NO);
                s.use(a[0]);
                return s.set();
            default:
                bad(out(a[0], 1, 100));
                s.pass(a[0]);
                return s.set();
        }
    }

    private int chairs(String call, int[] a) {
        switch (call) {
            case "wants":
                bad(out(a[0], 0, 9));
                refuse(s.chair.size() == 6, FULL);
                s.chair.add(a[0]);
                return s.chair.size();
            case "clear":
                int were = s.chair.size();
                s.chair.clear();
                return were;
            case "made":
                refuse(!s.can(), NO);
                for (int g : s.chair) {
                    if ((s.set() >> g & 1) == 1) {
                        s.use(g);
                    }
                }
                return s.day;
            case "soonest":
                bad(out(a[0], 0, 2));
                int[] best = s.soonest(4);
                return best == null ? NONE : best[a[0]];
            case "together":
                bad(out(a[0], 0, 1023) || Integer.bitCount(a[0]) > 3);
                return s.together(a[0], 0) ? 1 : 0;
            case "never":
                for (int i = 0; i < 100; i++) {
                    int both = 1 << i / 10 | 1 << i % 10;
                    if (i / 10 < i % 10 && (s.taught() & both) == both && !s.together(both, 0)) {
                        return i;
                    }
                }
                return NONE;
            case "last":
                bad(out(a[0], 0, 9));
                List<Integer> who = new ArrayList<>();
                for (int m = 0; m < s.masters.size(); m++) {
                    if (s.masters.get(m).gesture == a[0] && !s.masters.get(m).dead) {
                        who.add(m);
                    }
                }
                return who.size() == 1 ? who.get(0) : NONE;
            default:
                return guesses(call, a);
        }
    }

    private int guesses(String call, int[] a) {
        switch (call) {
            case "years":
                bad(out(a[0], 1, 60));
                int died = 0;
                for (int i = 0; i < a[0]; i++) {
                    died += s.year();
                }
                return died;
            case "gone":
                bad(out(a[0], 0, 60));
                State then = s.copy();
                for (int i = 0; i < a[0]; i++) {
                    then.year();
                }
                return Integer.bitCount(s.taught() & ~then.taught());
            case "fresh":
                int best = 0;
                int least = Integer.MAX_VALUE;
                for (int town = 0; town < 6; town++) {
                    int sum = 0;
                    for (Master m : s.masters) {
                        sum += m.dead ? 0 : s.far(town, m.town);
                    }
                    best = sum < least ? town : best;
                    least = Math.min(sum, least);
                }
                return best;
            case "cut":
                bad(out(a[0], 0, 3) || out(a[1], 0, 1));
                refuse(sheets[a[0]] == null, NOTHING);
                refuse(s.masters.isEmpty(), NONE);
                return cut(sheets[a[0]])[a[1]];
            case "fame":
                Master m = at(a[0]);
                Law fame = s.law(1);
                return fame == null ? m.fee : value(fame.words, "fa", new int[] {m.fee, m.age});
            default:
                Law fine = s.law(2);
                return fine == null ? s.coins : value(fine.words, "cd", new int[] {s.coins, s.day});
        }
    }

    private int[] cut(double[] row) {
        int[] best = {NONE, Integer.MAX_VALUE};
        for (int m = 0; m < s.masters.size(); m++) {
            int apart = 0;
            for (int k = 0; k < row.length; k++) {
                apart += Double.isNaN(row[k]) ? 0 : Math.abs(s.takes(s.masters.get(m), k) - (int) row[k]);
            }
            best = apart < best[1] ? new int[] {m, apart} : best;
        }
        return best;
    }

    private int texts(String call, int[] a) {
        switch (call) {
            case "feed":
                refuse(tape.size() + 12 > 96, FULL);
                for (int i = 0; i < 12; i++) {
                    tape.add(a[i / 4] >>> 24 - 8 * (i % 4) & 255);
                }
                return tape.size();
            case "trim":
                bad(out(a[0], 0, tape.size()));
                tape.subList(a[0], tape.size()).clear();
                return a[0];
            case "text":
                List<String> words = new ArrayList<>();
                int fault = fault(words);
                tape.clear();
                refuse(fault >= 0, -100 - fault);
                refuse(s.laws.size() == 14, FULL);
                s.laws.add(new Law(List.of("term", "fame", "fine").indexOf(words.get(0)), words.subList(1, words.size())));
                return s.laws.size() - 1;
            case "textTold":
                bad(out(a[0], 0, s.laws.size() - 1) || out(a[1], 0, 1));
                Law law = s.laws.get(a[0]);
                return a[1] == 0 ? law.key : (int) law.words.stream().filter(w -> w.matches("[a-z]|[0-9]+")).count();
            default:
                bad(out(a[0], 0, 2));
                Law counts = s.law(a[0]);
                return counts == null ? NONE : s.laws.lastIndexOf(counts);
        }
    }

    /** The place of the fault of the tape, -1: none; by a stack of what is open, without recursion. */
    private int fault(List<String> words) {
        StringBuilder text = new StringBuilder();
        for (int b : tape) {
            text.append((char) b);
        }
        java.util.regex.Matcher next = java.util.regex.Pattern.compile("[a-z]+|[0-9]+|[^ ]", java.util.regex.Pattern.DOTALL).matcher(text);
        StringBuilder open = new StringBuilder();
        boolean wantsPiece = true;
        String names = null;
        while (next.find()) {
            String word = next.group();
            int place = next.start();
            if (names == null) {
                int key = List.of("term", "fame", "fine").indexOf(word);
                if (key < 0) {
                    return place;
                }
                names = List.of("kga", "fa", "cd").get(key);
            } else if (wantsPiece) {
                boolean name = word.length() == 1 && names.contains(word);
                boolean glued = place > 0 && String.valueOf(text.charAt(place - 1)).matches("[a-z0-9]");
                if ((name || word.matches("[0-9]{1,4}")) && !glued) {
                    wantsPiece = false;
                } else if (word.equals("!") && many(open, '!') < 8 || word.equals("(") && many(open, '(') < 8) {
                    open.append(word);
                } else {
                    return place;
                }
            } else if (word.equals(")") && many(open, '(') > 0) {
                open.setLength(open.lastIndexOf("("));
            } else if ("+-*/".contains(word)) {
                wantsPiece = true;
            } else if ("&|".contains(word)) {
                drop(open, '?');
                wantsPiece = true;
            } else if ("<=>".contains(word) && !endsWith(open, '?')) {
                open.append('?');
                wantsPiece = true;
            } else {
                return place;
            }
            if (!wantsPiece) {
                drop(open, '!');
            }
            words.add(word);
        }
        return wantsPiece || many(open, '(') > 0 ? text.length() : -1;
    }

    private static int many(StringBuilder open, char c) {
        return (int) open.chars().filter(o -> o == c).count();
    }

    private static boolean endsWith(StringBuilder open, char c) {
        return open.length() > 0 && open.charAt(open.length() - 1) == c;
    }

    private static void drop(StringBuilder open, char c) {
        while (endsWith(open, c)) {
            open.setLength(open.length() - 1);
        }
    }

    /** Splits at the last of the loosest signs that stand in no brackets. */
    private static int value(List<String> words, String names, int[] values) {
        for (String level : new String[] {"|", "&", "<=>", "+-", "*/"}) {
            int depth = 0;
            for (int i = words.size() - 1; i > 0; i--) {
                depth += words.get(i).equals(")") ? 1 : words.get(i).equals("(") ? -1 : 0;
                if (depth == 0 && level.contains(words.get(i))) {
                    int one = value(words.subList(0, i), names, values);
                    int other = value(words.subList(i + 1, words.size()), names, values);
                    return join(words.get(i).charAt(0), one, other);
                }
            }
        }
        String first = words.get(0);
        if (first.equals("!")) {
            return value(words.subList(1, words.size()), names, values) == 0 ? 1 : 0;
        }
        if (first.equals("(")) {
            return value(words.subList(1, words.size() - 1), names, values);
        }
        return names.contains(first) ? values[names.indexOf(first)] : Integer.parseInt(first);
    }

    private static int join(char sign, int one, int other) {
        boolean is = switch (sign) {
            case '|' -> (one != 0) | (other != 0);
            case '&' -> (one != 0) & (other != 0);
            case '<' -> one < other;
            case '=' -> one == other;
            default -> one > other;
        };
        return switch (sign) {
            case '+' -> one + other;
            case '-' -> one - other;
            case '*' -> one * other;
            case '/' -> other == 0 ? 0 : one / other;
            default -> is ? 1 : 0;
        };
    }

    private double[] row(int sheet) {
        bad(out(sheet, 0, 3));
        refuse(sheets[sheet] == null, NOTHING);
        return sheets[sheet];
    }

    private int sheets(String call, int[] a) {
        switch (call) {
            case "sheet":
                bad(out(a[0], 0, 3) || out(a[1], -1, 1) || a[1] >= 0 && a[2] > 24);
                refuse(a[1] >= 0 && a[2] < 0, SIZE);
                sheets[a[0]] = a[1] < 0 ? null : new double[a[2]];
                sorts[a[0]] = a[1];
                return a[1] < 0 ? 0 : a[2];
            case "mark":
                double[] marked = row(a[0]);
                refuse(out(a[1], 0, marked.length - 1), INDEX);
                refuse(sorts[a[0]] == 0 && a[2] == NONE, KIND);
                bad(sorts[a[0]] == 1 && a[2] != NONE && out(a[2], -99999, 99999));
                marked[a[1]] = sorts[a[0]] == 0 ? (short) a[2] : a[2] == NONE ? Double.NaN : a[2];
                return 1;
            case "pour":
                double[] poured = row(a[0]);
                int changed = 0;
                for (int m = 0; m < Math.min(poured.length, s.masters.size()); m++) {
                    if (!Double.isNaN(poured[m])) {
                        int fee = (int) Math.max(0, Math.min(99, poured[m]));
                        changed += fee == s.masters.get(m).fee ? 0 : 1;
                        s.masters.set(m, s.masters.get(m).withFee(fee));
                    }
                }
                return changed;
            case "reads":
                double[] read = row(a[0]);
                for (int i = 0; i < read.length; i++) {
                    boolean same = i < s.masters.size() && read[i] == s.masters.get(i).age;
                    if (!Double.isNaN(read[i]) && !same) {
                        return i;
                    }
                }
                return NONE;
            case "copy":
                bad(out(a[0], 0, 3) || out(a[2], 0, 3));
                double[] from = row(a[0]).clone();
                double[] to = row(a[2]);
                refuse(sorts[a[0]] != sorts[a[2]], KIND);
                refuse(a[1] < 0 || a[3] < 0 || a[4] < 0 || (long) a[1] + a[4] > from.length || (long) a[3] + a[4] > to.length, INDEX);
                for (int i = 0; i < a[4]; i++) {
                    to[a[3] + i] = from[a[1] + i];
                }
                return a[4];
            default:
                return slots(call, a);
        }
    }

    private int slots(String call, int[] a) {
        bad(out(a[0], 0, 4));
        Object held = slots[a[0]];
        if (call.equals("lay")) {
            bad(out(a[1], 0, 3));
            slots[a[0]] = switch (a[1]) {
                case 0 -> null;
                case 1 -> at(a[2]);
                case 2 -> row(a[2]).clone();
                default -> a[2];
            };
            return held == null ? 0 : held instanceof Master ? 1 : held instanceof double[] ? 2 : 3;
        }
        bad(call.equals("ask") && out(a[1], 0, 5));
        refuse(held == null, NOTHING);
        if (call.equals("ask")) {
            refuse(!(held instanceof Master m && m.isA(a[1])), KIND);
            return ((Master) held).own().worth(((Master) held).fee);
        }
        if (call.equals("item")) {
            refuse(!(held instanceof double[]), KIND);
            double[] row = (double[]) held;
            refuse(out(a[1], 0, row.length - 1), INDEX);
            refuse(Double.isNaN(row[a[1]]), KIND);
            return (int) row[a[1]];
        }
        refuse(!(held instanceof Integer), KIND);
        refuse(a[1] == 0, NO);
        return (Integer) held % a[1];
    }

    private int rows(String call, int[] a) {
        switch (call) {
            case "tell":
                refuse(waiting.size() == 60, FULL);
                waiting.add(a[0]);
                return waiting.size();
            case "check":
                List<Integer> told = new ArrayList<>(waiting);
                waiting.clear();
                bad(out(a[0], 1, 30));
                refuse(image == null, NO);
                return firstWrong(told, yearsTold(a[0]));
            case "keep":
                image = s.copy();
                return image.masters.size();
            case "back":
                refuse(image == null, NO);
                s = image.copy();
                return s.masters.size();
            default:
                bad(out(a[0], 0, 9));
                return new int[] {s.masters.size(), s.dead(), s.day, s.known.size(), s.chair.size(), s.can() ? 1 : 0,
                    s.laws.size(), waiting.size(), tape.size(), s.z}[a[0]];
        }
    }

    List<Integer> yearsTold(int n) {
        State then = image.copy();
        List<Integer> due = new ArrayList<>();
        for (int year = 0; year < n; year++) {
            then.year();
            due.add(then.dead());
            due.add(then.masters.stream().mapToInt(Master::age).sum());
        }
        return due;
    }

    private static int firstWrong(List<Integer> told, List<Integer> due) {
        for (int i = 0; i < Math.max(told.size(), due.size()); i++) {
            if (i >= told.size() || i >= due.size() || !told.get(i).equals(due.get(i))) {
                return 1 + i;
            }
        }
        return 0;
    }
}
