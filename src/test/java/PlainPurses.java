import java.util.ArrayList;
import java.util.Arrays;
import java.util.HashMap;
import java.util.List;
import java.util.Map;

/**
 * A second reading of the document, written for plainness alone: every bundle is looked at, every time,
 * and nothing of it is shared with LessonPurses. RandomRunsTest compares the two.
 */
final class PlainPurses {
    static final class Lesson { int places, from, to; }

    static final class Human { int purse, done, hand; List<String> wishes = new ArrayList<>(); }

    record Bought(boolean any, int bits, int price, int worth) { }

    record Told(int steps, int square, int[] row) { }

    final List<Lesson> lessons = new ArrayList<>();
    final List<int[]> afters = new ArrayList<>();
    final List<Human> people = new ArrayList<>();
    final StringBuilder tape = new StringBuilder();
    List<String> lie = null;
    int[] prices = new int[10];
    int most = 4;
    int step = 5;
    int faultPlace = -1;
    final Map<Human, int[][]> known = new HashMap<>();

    // ---- telling

    int lesson(int places, int from, int to) {
        if (lessons.size() == 10 || places < 0 || places > 9 || from < 0 || from > 39 || to <= from || to > 40) return -1;
        Lesson l = new Lesson();
        l.places = places;
        l.from = from;
        l.to = to;
        lessons.add(l);
        known.clear();
        return lessons.size() - 1;
    }

    boolean isLesson(int l) { return l >= 0 && l < lessons.size(); }

    boolean isHuman(int p) { return p >= 0 && p < people.size(); }

    boolean places(int lesson, int many) {
        if (!isLesson(lesson) || many < 0 || many > 9) return false;
        lessons.get(lesson).places = many;
        return true;
    }

    int after(int lesson, int other) {
        if (!isLesson(lesson) || !isLesson(other) || lesson == other || afters.size() == 20) return -1;
        for (int[] c : afters) if (c[0] == lesson && c[1] == other) return -1;
        afters.add(new int[] {lesson, other});
        known.clear();
        return afters.size();
    }

    boolean most(int many) {
        if (many < 1 || many > 6) return false;
        most = many;
        known.clear();
        return true;
    }

    int person(int purse, int done) {
        if (people.size() == 8 || purse < 0 || purse > 200 || done < 0 || done > 1023) return -1;
        Human h = new Human();
        h.purse = purse;
        h.done = done;
        people.add(h);
        return people.size() - 1;
    }

    boolean purse(int person, int much) {
        if (!isHuman(person) || much < 0 || much > 200) return false;
        people.get(person).purse = much;
        known.remove(people.get(person));
        return true;
    }

    int feed(int... numbers) {
        if (tape.length() + 20 > 400) return -1;
        for (int x : numbers) for (int b = 3; b >= 0; b--) tape.append((char) (x >>> (8 * b) & 255));
        return tape.length();
    }

    int wish(int person, int n) {
        if (!isHuman(person) || n < 0 || n > tape.length()) return -2;
        List<String> read = read(n);
        if (read == null) return -1;
        people.get(person).wishes = read;
        known.remove(people.get(person));
        return countStatements(read);
    }

    int falsely(int n) {
        if (n < 0 || n > tape.length()) return -2;
        List<String> read = read(n);
        if (read == null) return -1;
        lie = read;
        return countStatements(read);
    }

    int fault() { return faultPlace; }

    static int countStatements(List<String> tokens) {
        int many = 0;
        for (String t : tokens) if (t.equals(";")) many++;
        return many;
    }

    // ---- the text: a stack of what must still come, and the one token ahead

    /** Behind the last token; no sign of a text may be taken for it. */
    static final String END = "";

    List<String> read(int n) {
        String text = tape.substring(0, n);
        tape.setLength(0);
        List<String> tokens = new ArrayList<>();
        List<Integer> places = new ArrayList<>();
        int at = 0;
        while (at < n) {
            char c = text.charAt(at);
            int end = at + 1;
            if (c == ' ' || c == '\n') { at++; continue; }
            if (c >= 'a' && c <= 'z') while (end < n && text.charAt(end) >= 'a' && text.charAt(end) <= 'z') end++;
            if (c >= '0' && c <= '9') while (end < n && text.charAt(end) >= '0' && text.charAt(end) <= '9') end++;
            tokens.add(text.substring(at, end));
            places.add(at);
            at = end;
        }
        tokens.add(END);
        places.add(n);
        int bad = firstBad(tokens);
        faultPlace = bad < 0 ? -1 : places.get(bad);
        if (bad >= 0) return null;
        tokens.remove(tokens.size() - 1);
        return tokens;
    }

    static boolean isNumber(String t) { return t.matches("[0-9]{1,5}"); }

    static boolean isWordOf(String t) { return List.of("count", "hours", "first", "last", "gaps", "purse").contains(t); }

    static boolean beginsEx(String t) { return isNumber(t) || isWordOf(t) || t.equals("has") || t.equals("("); }

    static int firstBad(List<String> tokens) {
        ArrayList<String> due = new ArrayList<>(List.of("STATEMENTS"));
        int open = 0;
        int statements = 0;
        int i = 0;
        while (i < tokens.size()) {
            String t = tokens.get(i);
            String want = due.isEmpty() ? END : due.remove(due.size() - 1);
            switch (want) {
                case "CLOSE" -> open--;
                case "STATEMENTS" -> {
                    if (t.equals(END)) return -1;
                    if (statements++ == 16) return i;
                    if (t.equals("add")) { push(due, "STATEMENTS", ";", "IF?", "EX"); i++; }
                    else if (t.equals("never")) { push(due, "STATEMENTS", ";", "IF?"); i++; }
                    else return i;
                }
                case "IF?" -> { if (t.equals("if")) { push(due, "ANY"); i++; } }
                case "EX" -> push(due, "EX+", "PROD");
                case "EX+" -> { if (t.equals("+") || t.equals("-")) { push(due, "EX+", "PROD"); i++; } }
                case "PROD" -> push(due, "PROD*", "ATOM");
                case "PROD*" -> { if (t.equals("*") || t.equals("/")) { push(due, "PROD*", "ATOM"); i++; } }
                case "ATOM" -> {
                    if (!beginsEx(t)) return i;
                    if (t.equals("has")) push(due, "LESSON");
                    if (t.equals("(")) {
                        if (open++ == 9) return i;
                        push(due, "CLOSE", ")", "EX");
                    }
                    i++;
                }
                case "LESSON" -> {
                    if (!isNumber(t) || Integer.parseInt(t) > 9) return i;
                    i++;
                }
                case "ANY" -> push(due, "ANY+", "ALL");
                case "ANY+" -> { if (t.equals("or")) { push(due, "ANY+", "ALL"); i++; } }
                case "ALL" -> push(due, "ALL+", "ONE");
                case "ALL+" -> { if (t.equals("and")) { push(due, "ALL+", "ONE"); i++; } }
                case "ONE" -> {
                    if (t.equals("not") || t.equals("[")) {
                        if (open++ == 9) return i;
                        if (t.equals("not")) push(due, "CLOSE", "ONE");
                        else push(due, "CLOSE", "]", "ANY");
                        i++;
                    } else if (beginsEx(t)) {
                        push(due, "EX", "COMPARE", "EX");
                    } else {
                        return i;
                    }
                }
                case "COMPARE" -> {
                    if (!List.of("<", ">", "=").contains(t)) return i;
                    i++;
                }
                default -> {
                    if (!t.equals(want)) return i;
                    i++;
                }
            }
        }
        throw new IllegalStateException("the end was passed");
    }

    static void push(ArrayList<String> due, String... what) { due.addAll(Arrays.asList(what)); }

    // ---- what a text says of a bundle: the tokens are walked again for every question

    final class Walk {
        final List<String> tokens;
        final int bundle, purse;
        int at = 0;
        long worth = 0;
        boolean never = false;

        Walk(List<String> tokens, int bundle, int purse) {
            this.tokens = tokens;
            this.bundle = bundle;
            this.purse = purse;
            while (at < tokens.size()) statement();
        }

        boolean go(String t) {
            if (at < tokens.size() && tokens.get(at).equals(t)) { at++; return true; }
            return false;
        }

        void statement() {
            boolean add = go("add");
            if (!add) go("never");
            long value = add ? ex() : 0;
            boolean holds = !go("if") || any();
            go(";");
            if (add && holds) worth = Math.max(-1_000_000, Math.min(1_000_000, worth + value));
            if (!add && holds) never = true;
        }

        long held(long v) { return Math.max(-1_000_000_000L, Math.min(1_000_000_000L, v)); }

        long ex() {
            long v = prod();
            while (true) {
                if (go("+")) v = held(v + prod());
                else if (go("-")) v = held(v - prod());
                else return v;
            }
        }

        long prod() {
            long v = atom();
            while (true) {
                if (go("*")) v = held(v * atom());
                else if (go("/")) { long d = atom(); v = d == 0 ? 0 : held(v / d); }
                else return v;
            }
        }

        long atom() {
            if (go("(")) { long v = ex(); go(")"); return v; }
            String t = tokens.get(at++);
            if (isNumber(t)) return Integer.parseInt(t);
            int hours = 0, first = 1000, last = 0;
            for (int l = 0; l < lessons.size(); l++) {
                if ((bundle & 1 << l) != 0) {
                    hours += lessons.get(l).to - lessons.get(l).from;
                    first = Math.min(first, lessons.get(l).from);
                    last = Math.max(last, lessons.get(l).to);
                }
            }
            if (first == 1000) first = 0;
            return switch (t) {
                case "has" -> (bundle & 1 << Integer.parseInt(tokens.get(at++))) != 0 ? 1 : 0;
                case "count" -> Integer.bitCount(bundle);
                case "hours" -> hours;
                case "first" -> first;
                case "last" -> last;
                case "gaps" -> last - first - hours;
                case "purse" -> purse;
                default -> throw new IllegalStateException(t);
            };
        }

        boolean any() {
            boolean v = all();
            while (go("or")) v |= all();
            return v;
        }

        boolean all() {
            boolean v = one();
            while (go("and")) v &= one();
            return v;
        }

        boolean one() {
            if (go("not")) return !one();
            if (go("[")) { boolean v = any(); go("]"); return v; }
            long left = ex();
            String sign = tokens.get(at++);
            long right = ex();
            return sign.equals("<") ? left < right : sign.equals(">") ? left > right : left == right;
        }
    }

    int barOf(Human h, int bundle, boolean never) {
        if (bundle >= 1 << lessons.size()) return 1;
        if (Integer.bitCount(bundle) > most) return 2;
        boolean[] hour = new boolean[40];
        for (int l = 0; l < lessons.size(); l++) {
            if ((bundle & 1 << l) == 0) continue;
            for (int x = lessons.get(l).from; x < lessons.get(l).to; x++) {
                if (hour[x]) return 3;
                hour[x] = true;
            }
        }
        for (int[] c : afters) {
            if ((bundle & 1 << c[0]) != 0 && (bundle & 1 << c[1]) == 0 && (h.done & 1 << c[1]) == 0) return 4;
        }
        return never ? 5 : 0;
    }

    /** Worths and bars of all bundles, kept till something is told. */
    int[][] minds(Human h) {
        return known.computeIfAbsent(h, who -> {
            int[][] both = new int[2][1024];
            for (int b = 0; b < 1024; b++) {
                Walk w = new Walk(who.wishes, b, who.purse);
                both[0][b] = (int) w.worth;
                both[1][b] = barOf(who, b, w.never);
            }
            return both;
        });
    }

    int worthOf(Human h, int b) { return minds(h)[0][b]; }

    boolean lawful(Human h, int b) { return minds(h)[1][b] == 0; }

    boolean isBundle(int b) { return b >= 0 && b <= 1023; }

    int bars(int person, int b) { return isHuman(person) && isBundle(b) ? minds(people.get(person))[1][b] : -1; }

    int worth(int person, int b) { return isHuman(person) && isBundle(b) ? worthOf(people.get(person), b) : -2000000; }

    // ---- prices

    boolean price(int lesson, int much) {
        if (!isLesson(lesson) || much < 0 || much > 250) return false;
        prices[lesson] = much;
        return true;
    }

    boolean step(int much) {
        if (much < 1 || much > 50) return false;
        step = much;
        return true;
    }

    static int cost(int b, int[] row) {
        int all = 0;
        for (int l = 0; l < 10; l++) if ((b & 1 << l) != 0) all += row[l];
        return all;
    }

    Bought buy(Human h, int[] row) {
        Bought best = new Bought(false, 0, 0, 0);
        for (int b = 0; b < 1024; b++) {
            if (!lawful(h, b)) continue;
            int c = cost(b, row);
            int w = worthOf(h, b);
            if (c > h.purse) continue;
            if (!best.any || w > best.worth || w == best.worth && c < best.price) best = new Bought(true, b, c, w);
        }
        return best;
    }

    int buys(int person, int what) {
        if (!isHuman(person) || what < 0 || what > 2) return -2000000;
        Bought b = buy(people.get(person), prices);
        return what == 0 ? b.bits : what == 1 ? b.price : b.worth;
    }

    int leastAbove(Human h, int lesson) {
        int worth = buy(h, prices).worth;
        int least = Integer.MAX_VALUE;
        for (int b = 0; b < 1024; b++) {
            if (lawful(h, b) && worthOf(h, b) > worth && (lesson < 0 || (b & 1 << lesson) != 0)) least = Math.min(least, cost(b, prices));
        }
        return least;
    }

    int dear(int person) {
        if (!isHuman(person)) return -2;
        int least = leastAbove(people.get(person), -1);
        return least == Integer.MAX_VALUE ? -1 : least - people.get(person).purse;
    }

    int[] overs(int[] row) {
        int[] over = new int[lessons.size()];
        for (Human h : people) {
            int b = buy(h, row).bits;
            for (int l = 0; l < over.length; l++) if ((b & 1 << l) != 0) over[l]++;
        }
        for (int l = 0; l < over.length; l++) {
            over[l] -= lessons.get(l).places;
            if (over[l] < 0 && row[l] == 0) over[l] = 0;
        }
        return over;
    }

    int squareOf(int[] row) {
        int all = 0;
        for (int o : overs(row)) all += o * o;
        return all;
    }

    int over(int lesson) { return isLesson(lesson) ? overs(prices)[lesson] : -100; }

    int square() { return squareOf(prices); }

    static int held(int much) { return much < 0 ? 0 : Math.min(much, 250); }

    Told fitted(int n) {
        List<int[]> gone = new ArrayList<>();
        gone.add(prices.clone());
        for (int i = 0; i < n; i++) {
            int[] now = gone.get(gone.size() - 1);
            int[] over = overs(now);
            List<int[]> rows = new ArrayList<>();
            int[] together = now.clone();
            for (int l = 0; l < over.length; l++) {
                if (over[l] == 0) continue;
                int[] row = now.clone();
                row[l] = held(over[l] > 0 ? row[l] + step : row[l] - step);
                rows.add(row);
                together[l] = held(now[l] + over[l] * step);
            }
            rows.add(together);
            List<int[]> lastEight = gone.subList(Math.max(0, gone.size() - 8), gone.size());
            rows.removeIf(row -> lastEight.stream().anyMatch(old -> Arrays.equals(old, row)));
            if (rows.isEmpty()) break;
            int[] chosen = rows.get(0);
            for (int[] row : rows) if (squareOf(row) < squareOf(chosen)) chosen = row;
            gone.add(chosen);
        }
        int[] best = gone.get(0);
        int least = squareOf(best);
        for (int[] row : gone) {
            int s = squareOf(row);
            if (s < least) { least = s; best = row; }
        }
        return new Told(gone.size() - 1, least, best);
    }

    int fit(int n, int what) {
        if (n < 1 || n > 60 || what != 0 && what != 1 && !isLesson(what - 10)) return -1;
        Told t = fitted(n);
        return what == 0 ? t.square : what == 1 ? t.steps : t.row[what - 10];
    }

    boolean settle(int n) {
        if (n < 1 || n > 60) return false;
        prices = fitted(n).row.clone();
        return true;
    }

    int must(int by) {
        if (lessons.isEmpty() || lessons.size() > 3 || by < 1 || by > 250) return -1;
        List<Integer> allowed = new ArrayList<>();
        for (int p = 0; p <= 250 && allowed.size() < 20; p += by) allowed.add(p);
        return leastFrom(new int[10], 0, allowed);
    }

    int leastFrom(int[] row, int lesson, List<Integer> allowed) {
        if (lesson == lessons.size()) return squareOf(row);
        int least = Integer.MAX_VALUE;
        for (int p : allowed) {
            row[lesson] = p;
            least = Math.min(least, leastFrom(row, lesson + 1, allowed));
        }
        return least;
    }

    int why(int person, int lesson, int what) {
        if (!isHuman(person) || !isLesson(lesson) || what < 0 || what > 1) return -1;
        Human h = people.get(person);
        int reason;
        boolean any = false;
        for (int b = 0; b < 1024; b++) if ((b & 1 << lesson) != 0 && lawful(h, b)) any = true;
        int least = leastAbove(h, lesson);
        if ((buy(h, prices).bits & 1 << lesson) != 0) reason = 0;
        else if (!any) reason = 1;
        else if (least == Integer.MAX_VALUE) reason = 2;
        else reason = 3;
        if (what == 0) return reason;
        return reason == 3 ? least - h.purse : -1;
    }

    int edge(int person, int lesson) {
        if (!isHuman(person) || !isLesson(lesson)) return -1;
        for (int much = 0; much <= 250; much++) {
            int[] row = prices.clone();
            row[lesson] = much;
            if ((buy(people.get(person), row).bits & 1 << lesson) == 0) return much;
        }
        return -1;
    }

    int ties(int person) {
        if (!isHuman(person)) return -1;
        Human h = people.get(person);
        Bought bought = buy(h, prices);
        if (!bought.any) return -1;
        int many = 0;
        for (int b = 0; b < 1024; b++) {
            if (b != bought.bits && lawful(h, b) && worthOf(h, b) == bought.worth && cost(b, prices) <= h.purse) many++;
        }
        return many;
    }

    // ---- ways

    boolean give(int person, int b) {
        if (!isHuman(person) || !isBundle(b) || b >= 1 << lessons.size()) return false;
        people.get(person).hand = b;
        return true;
    }

    int leftOf(int[] has, int lesson) {
        int left = lessons.get(lesson).places;
        for (int b : has) if ((b & 1 << lesson) != 0) left--;
        return left;
    }

    int[] outcome(int way) {
        int[] has = new int[people.size()];
        switch (way) {
            case 0 -> { for (int p = 0; p < has.length; p++) has[p] = buy(people.get(p), prices).bits; }
            case 1 -> mend(has);
            case 2 -> {
                boolean forth = true;
                while (addRow(has, forth)) forth = !forth;
            }
            case 3 -> bid(has);
            case 4 -> { for (int p = 0; p < has.length; p++) has[p] = serial(has, p, -1); }
            default -> { for (int p = 0; p < has.length; p++) has[p] = people.get(p).hand; }
        }
        return has;
    }

    void mend(int[] has) {
        int[] row = prices.clone();
        while (true) {
            for (int p = 0; p < has.length; p++) has[p] = buy(people.get(p), row).bits;
            int worst = -1;
            int most = 0;
            for (int l = 0; l < lessons.size(); l++) {
                int over = -leftOf(has, l);
                if (over > most) { most = over; worst = l; }
            }
            if (worst < 0) break;
            row[worst] += step;
        }
        while (addRow(has, true)) { }
    }

    boolean addRow(int[] has, boolean forth) {
        boolean any = false;
        for (int i = 0; i < has.length; i++) {
            int p = forth ? i : has.length - 1 - i;
            Human h = people.get(p);
            int best = -1;
            for (int l = 0; l < lessons.size(); l++) {
                int with = has[p] | 1 << l;
                if (with == has[p] || leftOf(has, l) <= 0 || !lawful(h, with)) continue;
                if (worthOf(h, with) <= worthOf(h, has[p])) continue;
                if (best < 0 || worthOf(h, with) > worthOf(h, has[p] | 1 << best)) best = l;
            }
            if (best >= 0) {
                has[p] |= 1 << best;
                any = true;
            }
        }
        return any;
    }

    void bid(int[] has) {
        List<int[]> bids = new ArrayList<>();
        for (int p = 0; p < has.length; p++) {
            for (int l = 0; l < lessons.size(); l++) {
                int more = worthOf(people.get(p), 1 << l) - worthOf(people.get(p), 0);
                if (more > 0) bids.add(new int[] {more, p, l});
            }
        }
        bids.sort((a, b) -> a[0] != b[0] ? b[0] - a[0] : a[1] != b[1] ? a[1] - b[1] : a[2] - b[2]);
        for (int[] b : bids) {
            if (leftOf(has, b[2]) > 0 && lawful(people.get(b[1]), has[b[1]] | 1 << b[2])) has[b[1]] |= 1 << b[2];
        }
    }

    /** What somebody takes, who has nothing now, if one lesson may be nobody's. */
    int serial(int[] has, int p, int ended) {
        Human h = people.get(p);
        int best = -1;
        next:
        for (int b = 0; b < 1024; b++) {
            if (!lawful(h, b)) continue;
            for (int l = 0; l < lessons.size(); l++) {
                if ((b & 1 << l) != 0 && (l == ended || leftOf(has, l) <= 0)) continue next;
            }
            if (best < 0 || worthOf(h, b) > worthOf(h, best)) best = b;
        }
        return Math.max(best, 0);
    }

    boolean isWay(int way) { return way >= 0 && way <= 5; }

    int has(int way, int person) { return isWay(way) && isHuman(person) ? outcome(way)[person] : -1; }

    int left(int way, int lesson) { return isWay(way) && isLesson(lesson) ? leftOf(outcome(way), lesson) : -100; }

    int sum(int way) {
        if (!isWay(way)) return -2000000000;
        int[] has = outcome(way);
        int all = 0;
        for (int p = 0; p < has.length; p++) all += worthOf(people.get(p), has[p]);
        return all;
    }

    int envyIn(int[] has, int one, int other) {
        Human h = people.get(one);
        int own = worthOf(h, has[one]);
        if (!lawful(h, has[other]) || worthOf(h, has[other]) <= own) return 0;
        for (int l = 0; l < 10; l++) {
            if ((has[other] & 1 << l) == 0) continue;
            int without = has[other] - (1 << l);
            if (!lawful(h, without) || worthOf(h, without) <= own) return 1;
        }
        return 2;
    }

    int envy(int way, int one, int other) {
        if (!isWay(way) || !isHuman(one) || !isHuman(other) || one == other) return -1;
        return envyIn(outcome(way), one, other);
    }

    int envies(int way, int much) {
        if (!isWay(way) || much != 1 && much != 2) return -1;
        int[] has = outcome(way);
        int many = 0;
        for (int a = 0; a < has.length; a++) for (int b = 0; b < has.length; b++) if (a != b && envyIn(has, a, b) >= much) many++;
        return many;
    }

    int waste(int way, int what) {
        if (!isWay(way) || what < 0 || what > 3) return -1;
        int[] has = outcome(way);
        for (int a = 0; a < has.length; a++) {
            for (int b = a + 1; b < has.length; b++) {
                for (int x = 0; x <= 10; x++) {
                    for (int y = 0; y <= 10; y++) {
                        if (isWaste(has, a, b, x, y)) return new int[] {a, b, x, y}[what];
                    }
                }
            }
        }
        return -1;
    }

    boolean isWaste(int[] has, int a, int b, int x, int y) {
        if (x == 10 && y == 10) return false;
        int newA = has[a];
        int newB = has[b];
        if (x < 10) {
            if ((has[a] & 1 << x) == 0 || (has[b] & 1 << x) != 0) return false;
            newA -= 1 << x;
            newB += 1 << x;
        }
        if (y < 10) {
            if ((has[b] & 1 << y) == 0 || (has[a] & 1 << y) != 0) return false;
            newB -= 1 << y;
            newA += 1 << y;
        }
        Human h = people.get(a);
        Human g = people.get(b);
        if (!lawful(h, newA) || !lawful(g, newB)) return false;
        int moreA = Integer.compare(worthOf(h, newA), worthOf(h, has[a]));
        int moreB = Integer.compare(worthOf(g, newB), worthOf(g, has[b]));
        return moreA >= 0 && moreB >= 0 && (moreA > 0 || moreB > 0);
    }

    int share(int person) {
        if (!isHuman(person) || people.size() > 3 || lessons.size() > 6) return -2000000;
        return shareFrom(people.get(person), new int[people.size()], 0);
    }

    int shareFrom(Human h, int[] heaps, int lesson) {
        int answer;
        if (lesson == lessons.size()) {
            answer = Integer.MAX_VALUE;
            for (int heap : heaps) {
                int best = -1000000;
                for (int b = 0; b < 1024; b++) if ((b & ~heap) == 0 && lawful(h, b)) best = Math.max(best, worthOf(h, b));
                answer = Math.min(answer, best);
            }
        } else {
            answer = Integer.MIN_VALUE;
            for (int i = 0; i < heaps.length; i++) {
                heaps[i] += 1 << lesson;
                answer = Math.max(answer, shareFrom(h, heaps, lesson + 1));
                heaps[i] -= 1 << lesson;
            }
        }
        return answer;
    }

    int gain(int way, int person) {
        if (way < 1 || way > 4 || !isHuman(person) || lie == null) return -3000000;
        Human h = people.get(person);
        int honest = worthOf(h, outcome(way)[person]);
        List<String> own = h.wishes;
        h.wishes = lie;
        known.remove(h);
        int would = outcome(way)[person];
        h.wishes = own;
        known.remove(h);
        return worthOf(h, would) - honest;
    }

    int rank(int way, int person) {
        if (!isWay(way) || !isHuman(person)) return -1;
        Human h = people.get(person);
        int own = worthOf(h, outcome(way)[person]);
        int many = 0;
        for (int b = 0; b < 1024; b++) if (lawful(h, b) && worthOf(h, b) > own) many++;
        return many;
    }

    int few(int way, int lesson, int what) {
        if (!isWay(way) || !isLesson(lesson) || what != 0 && !isHuman(what - 10)) return -1;
        int[] has = outcome(way);
        for (int p = 0; p < has.length; p++) has[p] &= ~(1 << lesson);
        int[] best = null;
        int bestSet = -1;
        for (int set = 0; set < 1 << has.length; set++) {
            if (best != null && Integer.bitCount(set) >= Integer.bitCount(bestSet)) continue;
            int[] then = has.clone();
            for (int p = 0; p < then.length; p++) if ((set & 1 << p) != 0) then[p] = 0;
            for (int p = 0; p < then.length; p++) if ((set & 1 << p) != 0) then[p] = serial(then, p, lesson);
            boolean good = true;
            for (int p = 0; p < then.length; p++) good &= lawful(people.get(p), then[p]);
            for (int l = 0; l < lessons.size(); l++) good &= leftOf(then, l) >= 0;
            if (good) {
                best = then;
                bestSet = set;
            }
        }
        if (best == null) return -1;
        return what == 0 ? bestSet : best[what - 10];
    }

    int judge() {
        for (int p = 0; p < people.size(); p++) {
            int bar = bars(p, people.get(p).hand);
            if (bar != 0) return 10 * p + bar;
        }
        for (int l = 0; l < lessons.size(); l++) if (leftOf(outcome(5), l) < 0) return 1000 + l;
        return -1;
    }

    int count(int what) {
        return switch (what) {
            case 0 -> lessons.size();
            case 1 -> people.size();
            case 2 -> afters.size();
            case 3 -> most;
            case 4 -> step;
            case 5 -> tape.length();
            case 6 -> lessons.stream().mapToInt(l -> l.places).sum();
            case 7 -> Arrays.stream(prices).sum();
            case 8 -> people.stream().mapToInt(h -> h.purse).sum();
            case 9 -> lie == null ? 0 : 1;
            default -> -1;
        };
    }
}
