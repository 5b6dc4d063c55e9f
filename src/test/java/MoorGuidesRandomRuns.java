import java.math.BigInteger;
import java.util.ArrayList;
import java.util.Arrays;
import java.util.LinkedHashMap;
import java.util.List;
import java.util.Map;
import java.util.NoSuchElementException;
import java.util.Random;
import java.util.Set;
import java.util.TreeMap;
import java.util.TreeSet;

/** Random runs of calls beside a second program, written from the document in the most roundabout way. */
public final class MoorGuidesRandomRuns extends Dues {
    private static final Set<String> LANGUAGE = Set.of("part", "beside", "person", "knows", "cost", "from", "till",
        "forget", "party", "weather", "slide", "near", "seed", "law", "out", "pick", "or", "and", "not", "odds",
        "around", "times", "wanted", "night");
    private static final List<String> NAMES =
        List.of("odds", "around", "weather", "times", "wanted", "cost", "night");
    private static final BigInteger MOST = BigInteger.TEN.pow(12);

    // ---- the text -------------------------------------------------------------------------------------------

    private static final class Fault extends RuntimeException {
        private static final long serialVersionUID = 1L;
        final int kind;
        final int place;

        Fault(int kind, int place) {
            this.kind = kind;
            this.place = place;
        }
    }

    /** A knot of an expression: a number, a name, or a sign with what is left and right of it. */
    private record Knot(String sign, int number, Knot left, Knot right) {
        BigInteger value(Map<String, Long> names) {
            if (sign == null) {
                return BigInteger.valueOf(number);
            }
            if (names.containsKey(sign)) {
                return BigInteger.valueOf(names.get(sign));
            }
            BigInteger a = left.value(names);
            BigInteger b = right == null ? BigInteger.ZERO : right.value(names);
            if (a == null || b == null) {
                return null;
            }
            BigInteger c = join(a, b);
            return c == null || c.abs().compareTo(MOST) > 0 ? null : c;
        }

        private BigInteger join(BigInteger a, BigInteger b) {
            int order = a.compareTo(b);
            return switch (sign) {
                case "not" -> bit(a.signum() == 0);
                case "and" -> bit(a.signum() != 0 && b.signum() != 0);
                case "or" -> bit(a.signum() != 0 || b.signum() != 0);
                case "<" -> bit(order < 0);
                case "<=" -> bit(order <= 0);
                case "=" -> bit(order == 0);
                case "<>" -> bit(order != 0);
                case ">=" -> bit(order >= 0);
                case ">" -> bit(order > 0);
                case "+" -> a.add(b);
                case "-" -> a.subtract(b);
                case "*" -> a.multiply(b);
                default -> b.signum() == 0 ? null : a.divide(b);
            };
        }

        private static BigInteger bit(boolean is) {
            return is ? BigInteger.ONE : BigInteger.ZERO;
        }
    }

    private record Person(String name, Set<Integer> first, int cost, int from, int till, int forget) {
    }

    private record Party(int from, int to, int night, int price) {
    }

    private record Slide(int part, int night) {
    }

    private static final class Told {
        final List<String> parts = new ArrayList<>();
        final List<Integer> odds = new ArrayList<>();
        final List<Set<Integer>> beside = new ArrayList<>();
        final List<Person> people = new ArrayList<>();
        final List<Party> parties = new ArrayList<>();
        final List<Integer> weather = new ArrayList<>();
        final List<Slide> slides = new ArrayList<>();
        Integer near;
        Integer seed;
        Knot out;
        Knot pick;
        int knots;
        int lines;

        int near() {
            return near == null ? 0 : near;
        }
    }

    private static final class TextReader {
        private final String text;
        private int at;
        private int open;
        private final Told told = new Told();

        TextReader(String text) {
            this.text = text;
        }

        Told read() {
            while (!peek().isEmpty()) {
                line();
                take(";");
                told.lines++;
            }
            return told;
        }

        private int place() {
            int i = at;
            while (i < text.length() && (text.charAt(i) == ' ' || text.charAt(i) == '\n')) {
                i++;
            }
            return i;
        }

        /** The next token; empty at the end; a sign that is none stands as it is. */
        private String peek() {
            int i = place();
            if (i == text.length()) {
                return "";
            }
            int j = i;
            while (j < text.length() && text.charAt(j) >= 'a' && text.charAt(j) <= 'z') {
                j++;
            }
            while (j == i || i < j && digit(text.charAt(i))) {
                if (j < text.length() && digit(text.charAt(j))) {
                    j++;
                } else {
                    break;
                }
            }
            if (j > i) {
                return text.substring(i, j);
            }
            for (String two : List.of("<=", "<>", ">=")) {
                if (text.startsWith(two, i)) {
                    return two;
                }
            }
            return text.substring(i, i + 1);
        }

        private static boolean digit(char c) {
            return c >= '0' && c <= '9';
        }

        private String next() {
            String token = peek();
            at = place() + token.length();
            return token;
        }

        private Fault fault(int kind) {
            return new Fault(kind, place());
        }

        private void take(String token) {
            if (!peek().equals(token)) {
                throw fault(1);
            }
            next();
        }

        private String name() {
            String w = peek();
            if (!w.matches("[a-z]{1,6}") || LANGUAGE.contains(w)) {
                throw fault(1);
            }
            return w;
        }

        private int number(int least, int most) {
            String n = peek();
            if (!n.matches("[0-9]+")) {
                throw fault(1);
            }
            BigInteger value = new BigInteger(n);
            if (value.compareTo(BigInteger.valueOf(least)) < 0 || value.compareTo(BigInteger.valueOf(most)) > 0) {
                throw fault(2);
            }
            next();
            return value.intValue();
        }

        private int partAhead() {
            String w = name();
            if (!told.parts.contains(w)) {
                throw fault(4);
            }
            next();
            return told.parts.indexOf(w);
        }

        private int partOnce(Set<Integer> already) {
            String w = name();
            if (told.parts.contains(w) && already.contains(told.parts.indexOf(w))) {
                throw fault(3);
            }
            return partAhead();
        }

        private void line() {
            switch (peek()) {
                case "part" -> part();
                case "person" -> person();
                case "party" -> {
                    atMost(told.parties.size(), 8);
                    told.parties.add(new Party(partAhead(), partAhead(), number(0, 999), number(0, 99)));
                }
                case "weather" -> {
                    once(!told.weather.isEmpty());
                    told.weather.add(number(0, 9));
                    while (peek().matches("[0-9]+")) {
                        if (told.weather.size() == 14) {
                            throw fault(2);
                        }
                        told.weather.add(number(0, 9));
                    }
                }
                case "slide" -> {
                    atMost(told.slides.size(), 4);
                    told.slides.add(new Slide(partAhead(), number(0, 999)));
                }
                case "near" -> {
                    once(told.near != null);
                    told.near = number(0, 8);
                }
                case "seed" -> {
                    once(told.seed != null);
                    told.seed = number(0, 99999);
                }
                case "law" -> law();
                default -> throw fault(1);
            }
        }

        private void atMost(int size, int most) {
            if (size == most) {
                throw fault(2);
            }
            next();
        }

        private void once(boolean already) {
            if (already) {
                throw fault(3);
            }
            next();
        }

        private void part() {
            atMost(told.parts.size(), 8);
            String w = name();
            if (told.parts.contains(w)) {
                throw fault(3);
            }
            next();
            int odds = number(0, 100);
            Set<Integer> beside = new TreeSet<>();
            while (peek().equals("beside")) {
                next();
                beside.add(partOnce(beside));
            }
            for (int other : beside) {
                told.beside.get(other).add(told.parts.size());
            }
            told.parts.add(w);
            told.odds.add(odds);
            told.beside.add(beside);
        }

        private void person() {
            atMost(told.people.size(), 6);
            String w = name();
            for (Person p : told.people) {
                if (p.name().equals(w)) {
                    throw fault(3);
                }
            }
            next();
            Set<Integer> knows = new TreeSet<>();
            Map<String, Integer> options = new LinkedHashMap<>();
            while (true) {
                String option = peek();
                if (option.equals("knows")) {
                    next();
                    knows.add(partOnce(knows));
                } else if (List.of("cost", "from", "till", "forget").contains(option)) {
                    once(options.containsKey(option));
                    int least = option.equals("forget") ? 1
                        : option.equals("till") ? options.getOrDefault("from", 0) : 0;
                    int most = option.equals("cost") ? 99
                        : option.equals("from") ? options.getOrDefault("till", 999) : 999;
                    options.put(option, number(least, most));
                } else {
                    break;
                }
            }
            told.people.add(new Person(w, knows, options.getOrDefault("cost", 1), options.getOrDefault("from", 0),
                options.getOrDefault("till", 999), options.getOrDefault("forget", 999)));
        }

        private void law() {
            next();
            String kind = peek();
            if (!kind.equals("out") && !kind.equals("pick")) {
                throw fault(1);
            }
            once(kind.equals("out") ? told.out != null : told.pick != null);
            open = 0;
            Knot e = level(0);
            if (kind.equals("out")) {
                told.out = e;
            } else {
                told.pick = e;
            }
        }

        private static final List<List<String>> SIGNS = List.of(List.of("or"), List.of("and"), List.of("not"),
            List.of("<", "<=", "=", "<>", ">=", ">"), List.of("+", "-"), List.of("*", "/"));

        private Knot level(int level) {
            if (level == SIGNS.size()) {
                return single();
            }
            if (level == 2) {
                if (!peek().equals("not")) {
                    return level(3);
                }
                knot();
                return new Knot("not", 0, level(2), null);
            }
            Knot left = level(level + 1);
            while (SIGNS.get(level).contains(peek())) {
                String sign = peek();
                knot();
                left = new Knot(sign, 0, left, level(level + 1));
                if (level == 3) {
                    break;
                }
            }
            return left;
        }

        private void knot() {
            if (told.knots == 64) {
                throw fault(2);
            }
            told.knots++;
            next();
        }

        private Knot single() {
            String token = peek();
            if (token.equals("(")) {
                if (open == 8) {
                    throw fault(2);
                }
                open++;
                next();
                Knot e = level(0);
                take(")");
                open--;
                return e;
            }
            if (NAMES.contains(token)) {
                knot();
                return new Knot(token, 0, null, null);
            }
            if (!token.matches("[0-9]+")) {
                throw fault(1);
            }
            if (new BigInteger(token).compareTo(BigInteger.valueOf(9999)) > 0) {
                throw fault(2);
            }
            int number = new BigInteger(token).intValue();
            knot();
            return new Knot(null, number, null, null);
        }
    }

    // ---- how it stands --------------------------------------------------------------------------------------

    private static final class State {
        int night;
        long number;
        final Set<Integer> gone = new TreeSet<>();
        final Map<Integer, Integer> times = new TreeMap<>();
        /** By person and part every night on which it was learned, -1 for at first. */
        final Map<List<Integer>, List<Integer>> learned = new LinkedHashMap<>();
        final Map<Integer, Integer> lost = new TreeMap<>();
        final List<Slide> slides = new ArrayList<>();

        State copy() {
            State s = new State();
            s.night = night;
            s.number = number;
            s.gone.addAll(gone);
            s.times.putAll(times);
            learned.forEach((k, v) -> s.learned.put(k, new ArrayList<>(v)));
            s.lost.putAll(lost);
            s.slides.addAll(slides);
            return s;
        }
    }

    private record Claim(int person, int night, int part) {
    }

    private record Undo(Integer person, Integer part) {
    }

    private record Led(int hands, List<Integer> parts, List<Integer> guides) implements Comparable<Led> {
        @Override
        public int compareTo(Led other) {
            int c = Integer.compare(hands, other.hands);
            c = c != 0 ? c : Integer.compare(parts.size(), other.parts.size());
            c = c != 0 ? c : compareLists(parts, other.parts);
            return c != 0 ? c : compareLists(guides, other.guides);
        }
    }

    private static int compareLists(List<Integer> a, List<Integer> b) {
        for (int i = 0; i < a.size(); i++) {
            int c = Integer.compare(a.get(i), b.get(i));
            if (c != 0) {
                return c;
            }
        }
        return 0;
    }

    /** The second program. */
    private static final class Model {
        byte[] tape = new byte[0];
        Told told = new Told();
        State state = new State();
        State image;
        int fault;
        int place = -1;
        List<Undo> undo = new ArrayList<>();
        List<Claim> claims = new ArrayList<>();

        int feed(int... five) {
            if (tape.length + 20 > 900) {
                return -1;
            }
            byte[] longer = Arrays.copyOf(tape, tape.length + 20);
            for (int i = 0; i < 20; i++) {
                longer[tape.length + i] = (byte) (five[i / 4] >>> (24 - 8 * (i % 4)));
            }
            tape = longer;
            return tape.length;
        }

        int text(int n) {
            if (n < 0 || n > tape.length) {
                return -2;
            }
            StringBuilder s = new StringBuilder();
            for (int i = 0; i < n; i++) {
                s.append((char) (tape[i] & 255));
            }
            tape = new byte[0];
            try {
                told = new TextReader(s.toString()).read();
            } catch (Fault f) {
                fault = f.kind;
                place = f.place;
                return -1;
            }
            fault = 0;
            place = -1;
            state = new State();
            state.number = told.seed == null ? 0 : told.seed;
            state.slides.addAll(told.slides);
            for (int p = 0; p < told.people.size(); p++) {
                for (int part : told.people.get(p).first()) {
                    state.learned.put(List.of(p, part), new ArrayList<>(List.of(-1)));
                }
            }
            image = null;
            undo.clear();
            claims.clear();
            return told.lines;
        }

        int named(int what, int letters) {
            List<String> names = new ArrayList<>();
            if (what == 0) {
                names.addAll(told.parts);
            } else if (what == 1) {
                told.people.forEach(p -> names.add(p.name()));
            }
            for (int i = 0; i < names.size(); i++) {
                int code = 0;
                for (int j = 0; j < 6; j++) {
                    code = code * 32 + (j < names.get(i).length() ? names.get(i).charAt(j) - 96 : 0);
                }
                if (code == letters) {
                    return i;
                }
            }
            return -1;
        }

        boolean part(int p) {
            return p >= 0 && p < told.parts.size();
        }

        boolean person(int p) {
            return p >= 0 && p < told.people.size();
        }

        boolean party(int p) {
            return p >= 0 && p < told.parties.size();
        }

        static boolean night(int n) {
            return n >= 0 && n <= 999;
        }

        boolean there(State s, int p, int night) {
            Person who = told.people.get(p);
            return !s.gone.contains(p) && night >= who.from() && night < who.till();
        }

        boolean knows(State s, int p, int part, int night) {
            List<Integer> times = s.learned.get(List.of(p, part));
            if (times == null || !there(s, p, night)) {
                return false;
            }
            int latest = times.get(times.size() - 1);
            int as = Math.max(0, latest);
            if (as > night || night - as > told.people.get(p).forget()) {
                return false;
            }
            for (int n = latest + 1; n <= night; n++) {
                if (s.slides.contains(new Slide(part, n))) {
                    return false;
                }
            }
            return true;
        }

        Set<Integer> known(State s, int p, int night) {
            Set<Integer> known = new TreeSet<>();
            for (int part = 0; part < told.parts.size(); part++) {
                if (knows(s, p, part, night)) {
                    known.add(part);
                }
            }
            return known;
        }

        static int bits(Set<Integer> set) {
            int bits = 0;
            for (int i : set) {
                bits += 1 << i;
            }
            return bits;
        }

        /** Every way without a part twice. */
        void ways(List<Integer> way, int to, Set<Integer> allowed, List<List<Integer>> found) {
            int last = way.get(way.size() - 1);
            if (last == to) {
                found.add(List.copyOf(way));
                return;
            }
            for (int next : told.beside.get(last)) {
                if (allowed.contains(next) && !way.contains(next)) {
                    way.add(next);
                    ways(way, to, allowed, found);
                    way.remove(way.size() - 1);
                }
            }
        }

        List<List<Integer>> ways(int from, int to, Set<Integer> allowed) {
            List<List<Integer>> found = new ArrayList<>();
            if (allowed.contains(from)) {
                ways(new ArrayList<>(List.of(from)), to, allowed, found);
            }
            return found;
        }

        int fewestParts(int from, int to, Set<Integer> allowed) {
            return ways(from, to, allowed).stream().mapToInt(List::size).min().orElse(-1);
        }

        Set<Integer> all() {
            Set<Integer> all = new TreeSet<>();
            for (int i = 0; i < told.parts.size(); i++) {
                all.add(i);
            }
            return all;
        }

        int steps(int from, int to) {
            int parts = fewestParts(from, to, all());
            return parts < 0 ? -2 : parts - 1;
        }

        boolean near(int a, int b) {
            int steps = steps(a, b);
            return steps >= 0 && steps <= told.near();
        }

        int wanted(int part, int night) {
            return (int) told.parties.stream()
                .filter(p -> p.night() >= night && (p.from() == part || p.to() == part)).count();
        }

        BigInteger law(Knot law, State s, int p, int part) {
            if (law == null) {
                return null;
            }
            Map<String, Long> names = new LinkedHashMap<>();
            names.put("odds", (long) told.odds.get(part));
            Set<Integer> around = new TreeSet<>(told.beside.get(part));
            around.retainAll(known(s, p, s.night));
            names.put("around", (long) around.size());
            names.put("weather",
                told.weather.isEmpty() ? 0L : told.weather.get(s.night % told.weather.size()));
            names.put("times", (long) s.times.getOrDefault(p, 0));
            names.put("wanted", (long) wanted(part, s.night));
            names.put("cost", (long) told.people.get(p).cost());
            names.put("night", (long) s.night);
            return law.value(names);
        }

        int chance(State s, int p, int part) {
            BigInteger value = law(told.out, s, p, part);
            return value == null ? told.odds.get(part)
                : value.max(BigInteger.ZERO).min(BigInteger.valueOf(100)).intValue();
        }

        void goBy(State s) {
            State begin = s.copy();
            begin.lost.forEach((p, part) -> {
                s.number = (s.number * 1103515245L + 12345L) % (1L << 31);
                if (s.number / 65536 % 100 < chance(begin, p, part)) {
                    s.times.merge(p, 1, Integer::sum);
                    boolean spoilt = begin.lost.entrySet().stream()
                        .anyMatch(o -> !o.getKey().equals(p) && near(part, o.getValue()));
                    if (!spoilt) {
                        s.learned.computeIfAbsent(List.of(p, part), k -> new ArrayList<>()).add(s.night);
                    }
                } else {
                    s.gone.add(p);
                }
            });
            s.lost.clear();
            s.night++;
        }

        /** Every way with every row of guides; the best of them all. */
        Led led(State s, Party party, int stranger) {
            List<Set<Integer>> known = new ArrayList<>();
            Set<Integer> any = new TreeSet<>();
            for (int p = 0; p < told.people.size(); p++) {
                known.add(known(s, p, party.night()));
            }
            Set<Integer> strange = new TreeSet<>(all());
            strange.removeIf(part -> (stranger >> part & 1) == 0);
            known.add(strange);
            known.forEach(any::addAll);
            Led best = null;
            for (List<Integer> way : ways(party.from(), party.to(), any)) {
                Led led = guides(way, 0, new ArrayList<>(), known, 0, null);
                if (led != null && (best == null || led.compareTo(best) < 0)) {
                    best = led;
                }
            }
            return best;
        }

        private Led guides(List<Integer> way, int k, List<Integer> row, List<Set<Integer>> known, int hands,
                Led best) {
            if (best != null && hands > best.hands()) {
                return best;
            }
            if (k == way.size()) {
                Led led = new Led(hands, way, List.copyOf(row));
                return best == null || led.compareTo(best) < 0 ? led : best;
            }
            for (int g = 0; g < known.size(); g++) {
                if (known.get(g).contains(way.get(k))) {
                    int more = k > 0 && row.get(k - 1) != g ? 1 : 0;
                    row.add(g);
                    best = guides(way, k + 1, row, known, hands + more, best);
                    row.remove(k);
                }
            }
            return best;
        }

        boolean canLead(int g, Party party) {
            return !ways(party.from(), party.to(), known(state, g, party.night())).isEmpty();
        }

        /** All ways to share out: the price in sum, then a guide (99 for none) by party. */
        List<Integer> share(int night, int without) {
            boolean[][] can = new boolean[told.people.size()][told.parties.size()];
            for (int g = 0; g < can.length; g++) {
                for (int p = 0; p < told.parties.size(); p++) {
                    can[g][p] = g != without && told.parties.get(p).night() == night
                        && canLead(g, told.parties.get(p));
                }
            }
            return share(can, new ArrayList<>(), 0, null);
        }

        private List<Integer> share(boolean[][] can, List<Integer> row, int sum, List<Integer> best) {
            int p = row.size();
            if (p == told.parties.size()) {
                List<Integer> whole = new ArrayList<>(List.of(-sum));
                whole.addAll(row);
                return best == null || compareLists(whole, best) < 0 ? whole : best;
            }
            for (int g = 0; g < can.length; g++) {
                if (can[g][p] && !row.contains(g)) {
                    row.add(g);
                    best = share(can, row, sum + told.parties.get(p).price(), best);
                    row.remove(p);
                }
            }
            row.add(99);
            best = share(can, row, sum, best);
            row.remove(p);
            return best;
        }

        int prices(State s, int night, int stranger) {
            return told.parties.stream().filter(p -> p.night() == night && led(s, p, stranger) != null)
                .mapToInt(Party::price).sum();
        }

        int fewest(int parties) {
            for (int size = 0; size <= told.parts.size(); size++) {
                for (int bits = 0; bits < 1 << told.parts.size(); bits++) {
                    boolean all = Integer.bitCount(bits) == size;
                    for (int p = 0; p < told.parties.size() && all; p++) {
                        all = (parties >> p & 1) == 0 || led(state, told.parties.get(p), bits) != null;
                    }
                    if (all) {
                        return bits;
                    }
                }
            }
            return -2;
        }

        /** The best order and its product, by trying all. */
        List<Integer> bestOrder;
        BigInteger bestProduct;

        void order(int p, int parts) {
            bestOrder = null;
            bestProduct = null;
            order(state.copy(), p, parts, new ArrayList<>(), BigInteger.ONE);
        }

        private void order(State s, int p, int left, List<Integer> row, BigInteger product) {
            if (left == 0) {
                if (bestProduct == null || product.compareTo(bestProduct) > 0) {
                    bestProduct = product;
                    bestOrder = List.copyOf(row);
                }
                return;
            }
            for (int part = 0; part < told.parts.size(); part++) {
                if ((left >> part & 1) != 0) {
                    State next = s.copy();
                    next.times.merge(p, 1, Integer::sum);
                    next.learned.computeIfAbsent(List.of(p, part), k -> new ArrayList<>()).add(s.night);
                    next.night++;
                    row.add(part);
                    order(next, p, left & ~(1 << part), row,
                        product.multiply(BigInteger.valueOf(chance(s, p, part))));
                    row.remove(row.size() - 1);
                }
            }
        }

        boolean thereAll(int p, int parts) {
            if (!person(p) || parts < 1 || parts >= 1 << told.parts.size()) {
                return false;
            }
            for (int i = 0; i < Integer.bitCount(parts); i++) {
                if (!there(state, p, state.night + i)) {
                    return false;
                }
            }
            return true;
        }

        int[] pick(State s, int master) {
            List<int[]> pairs = new ArrayList<>();
            List<int[]> beside = new ArrayList<>();
            for (int p = 0; p < told.people.size(); p++) {
                for (int part = 0; part < told.parts.size(); part++) {
                    if (there(s, p, s.night) && !knows(s, p, part, s.night)) {
                        pairs.add(new int[] {p, part});
                        for (int other : told.beside.get(part)) {
                            if (knows(s, p, other, s.night)) {
                                beside.add(new int[] {p, part});
                                break;
                            }
                        }
                    }
                }
            }
            if (pairs.isEmpty()) {
                return null;
            }
            if (master == 0) {
                return beside.isEmpty() ? pairs.get(0) : beside.get(0);
            }
            int[] best = null;
            BigInteger most = null;
            for (int[] pair : pairs) {
                BigInteger rate = BigInteger.valueOf(master == 1 ? wanted(pair[1], s.night)
                    : master == 2 ? chance(s, pair[0], pair[1]) : 0);
                if (master == 3 && law(told.pick, s, pair[0], pair[1]) != null) {
                    rate = law(told.pick, s, pair[0], pair[1]);
                }
                if (most == null || rate.compareTo(most) > 0) {
                    most = rate;
                    best = pair;
                }
            }
            return best;
        }

        int season(int master, int seed, int n, int what) {
            State s = state.copy();
            s.lost.clear();
            s.number = seed;
            int money = 0;
            int led = 0;
            for (int i = 0; i < n; i++) {
                for (Party p : told.parties) {
                    if (p.night() == s.night && led(s, p, 0) != null) {
                        money += p.price();
                        led++;
                    }
                }
                int[] pair = pick(s, master);
                if (pair != null) {
                    s.lost.put(pair[0], pair[1]);
                    money -= told.people.get(pair[0]).cost();
                }
                goBy(s);
            }
            return what == 0 ? money : what == 1 ? s.gone.size() - state.gone.size() : led;
        }

        boolean clash(Claim a, Claim b) {
            if (a.night() != b.night()) {
                return false;
            }
            return a.person() == b.person() ? a.part() != b.part() : near(a.part(), b.part());
        }

        int wrongly() {
            for (int size = 0; size <= claims.size(); size++) {
                for (int bits = 0; bits < 1 << claims.size(); bits++) {
                    boolean fine = Integer.bitCount(bits) == size;
                    for (int i = 0; i < claims.size() && fine; i++) {
                        for (int j = 0; j < i && fine; j++) {
                            fine = (bits >> i & 1) != 0 || (bits >> j & 1) != 0
                                || !clash(claims.get(i), claims.get(j));
                        }
                    }
                    if (fine) {
                        return bits;
                    }
                }
            }
            return -1;
        }

        void remember(Undo u) {
            undo.add(u);
            if (undo.size() > 20) {
                undo.remove(0);
            }
        }
    }

    // ---- the calls ------------------------------------------------------------------------------------------

    private final Random random;
    private final MoorGuides x = new MoorGuides();
    private final Model m = new Model();
    private final StringBuilder story = new StringBuilder();

    private MoorGuidesRandomRuns(long seed) {
        random = new Random(seed);
        story.append("seed ").append(seed).append(": ");
    }

    /** Mostly such a number, at times one a little outside. */
    private int about(int bound) {
        return random.nextInt(25) == 0 ? random.nextInt(bound + 4) - 2 : random.nextInt(Math.max(1, bound));
    }

    private void tell(String text, int n) {
        story.setLength(Math.min(story.length(), 12));
        story.append('[').append(text).append("] ");
        for (int i = 0; i < text.length(); i += 20) {
            int[] five = fiveOf(text, i);
            due(story + "feed", x.feed(five[0], five[1], five[2], five[3], five[4]), m.feed(five));
        }
        due(story + "text " + n, x.text(n), m.text(n));
        due(story + "fault 0", x.fault(0), m.fault);
        due(story + "fault 1", x.fault(1), m.place);
    }

    private String word(String letters) {
        return String.valueOf(letters.charAt(random.nextInt(letters.length())));
    }

    private String expression(int depth) {
        int kind = random.nextInt(depth > 3 ? 2 : 9);
        switch (kind) {
            case 0:
                return String.valueOf(random.nextInt(random.nextInt(6) == 0 ? 10000 : 12));
            case 1:
            case 2:
                return NAMES.get(random.nextInt(7));
            case 3:
                return "(" + expression(depth + 1) + ")";
            case 4:
                return "not " + expression(depth + 1);
            default:
                List<String> signs = List.of("+", "-", "*", "/", "<", "<=", "=", "<>", ">=", ">", " and ", " or ",
                    "+", "-", "*", "*");
                return expression(depth + 1) + signs.get(random.nextInt(signs.size())) + expression(depth + 1);
        }
    }

    /** A text that mostly is without a fault. */
    private String text() {
        StringBuilder s = new StringBuilder();
        int parts = random.nextInt(10) == 0 ? random.nextInt(3) : 2 + random.nextInt(random.nextInt(3) == 0 ? 7 : 4);
        String letters = "abcdefgh".substring(0, parts);
        for (int i = 0; i < parts; i++) {
            s.append("part ").append(letters.charAt(i)).append(' ').append(random.nextInt(4) == 0 ? 100 : random.nextInt(101));
            for (int j = 0; j < i; j++) {
                if (random.nextInt(parts) < 2) {
                    s.append(" beside ").append(letters.charAt(j));
                }
            }
            s.append(';');
        }
        int soon = 1 + random.nextInt(8);
        int people = random.nextInt(7);
        int thick = 1 + random.nextInt(3);
        for (int i = 0; i < people; i++) {
            s.append("person ").append("xyzabc".charAt(i));
            for (int j = 0; j < parts; j++) {
                if (random.nextInt(4) < thick) {
                    s.append(" knows ").append(letters.charAt(j));
                }
            }
            s.append(random.nextInt(3) == 0 ? " cost " + random.nextInt(100) : "");
            int from = random.nextInt(4) == 0 ? random.nextInt(soon) : 0;
            s.append(from > 0 ? " from " + from : "");
            s.append(random.nextInt(4) == 0 ? " till " + (from + random.nextInt(2 * soon)) : "");
            s.append(random.nextInt(3) == 0 ? " forget " + (1 + random.nextInt(2 * soon)) : "");
            s.append(';');
        }
        int parties = parts == 0 ? 0 : random.nextInt(9);
        for (int i = 0; i < parties; i++) {
            s.append("party ").append(word(letters)).append(' ').append(word(letters)).append(' ')
                .append(random.nextInt(soon)).append(' ').append(random.nextInt(random.nextBoolean() ? 100 : 3)).append(';');
        }
        if (random.nextBoolean()) {
            s.append("weather");
            for (int i = random.nextInt(14); i >= 0; i--) {
                s.append(' ').append(random.nextInt(10));
            }
            s.append(';');
        }
        for (int i = parts == 0 ? 0 : random.nextInt(5); i > 0; i--) {
            s.append("slide ").append(word(letters)).append(' ').append(random.nextInt(2 * soon)).append(';');
        }
        s.append(random.nextBoolean() ? "near " + random.nextInt(4) + ";" : "");
        s.append(random.nextBoolean() ? "seed " + random.nextInt(100000) + ";" : "");
        s.append(random.nextInt(3) > 0 ? "law out " + law() + ";" : "");
        s.append(random.nextInt(3) > 0 ? "law pick " + law() + ";" : "");
        return s.length() > 900 ? "part a 50;person x;" : s.toString();
    }

    /** Many laws at random are of no use: some have the form that a chance has. */
    private String law() {
        if (random.nextBoolean()) {
            return "odds/(" + (1 + random.nextInt(4)) + ")+around*" + random.nextInt(20) + "-weather*" + random.nextInt(5)
                + "+times*" + random.nextInt(9) + "-night*" + random.nextInt(3) + "+wanted*" + random.nextInt(9);
        }
        String e = expression(0);
        return e.length() > 300 ? "odds" : e;
    }

    private static final List<String> BITS = List.of(" ", "\n", ";", "part ", "beside ", "person ", "knows ", "cost ",
        "from ", "till ", "forget ", "party ", "weather ", "slide ", "near ", "seed ", "law ", "out ", "pick ", "or ", "and ", "not ",
        "odds ", "around ", "times ", "wanted ", "night ", "(", ")", "((((((((", "+", "-", "*", "/", "<", "<=", "=",
        "<>", ">=", ">", "#", "A", "abcdef ", "abcdefg ", "a ", "b ", "x ", "0 ", "1 ", "9 ", "10 ", "99 ", "100 ", "101 ",
        "999 ", "1000 ", "9999 ", "10000 ", "99999 ", "100000 ", "00000000000000001 ", "99999999999999999999 ",
        "1+1+1+1+1+1+1+1+1+1+1+1+1+1+1+1+1+1+1+1+1+1", "not not not not not not ", "\t", "\u00e9");

    private String spoil(String text) {
        StringBuilder s = new StringBuilder(text);
        for (int i = 1 + random.nextInt(3); i > 0; i--) {
            int at = random.nextInt(s.length() + 1);
            switch (random.nextInt(4)) {
                case 0:
                    s.insert(at, BITS.get(random.nextInt(BITS.size())));
                    break;
                case 1:
                    s.delete(at, Math.min(s.length(), at + 1 + random.nextInt(3)));
                    break;
                case 2:
                    s.replace(at, Math.min(s.length(), at + 1), BITS.get(random.nextInt(BITS.size())));
                    break;
                default:
                    int from = random.nextInt(s.length() + 1);
                    s.insert(at, s.substring(from, Math.min(s.length(), from + random.nextInt(40))));
                    break;
            }
        }
        return s.length() > 900 ? s.substring(0, 900) : s.toString();
    }

    private void call() {
        int who = about(m.told.people.size());
        int part = about(m.told.parts.size());
        int party = about(m.told.parties.size());
        int night = about(random.nextInt(10) == 0 ? 1000 : 14);
        int what = about(2);
        boolean known = m.person(who) && m.part(part);
        boolean tonight = m.person(who) && m.there(m.state, who, m.state.night);
        int kind = random.nextInt(34);
        String call = story + " call " + kind + " " + who + " " + part + " " + party + " " + night + " " + what;
        switch (kind) {
            case 0, 1, 2 -> lookAt(call, who, about(6));
            case 3 -> {
                int w = about(4);
                long want = !m.part(part) ? -1 : w == 0 ? m.told.odds.get(part) : w == 1 ? Model.bits(m.told.beside.get(part))
                    : w == 2 ? m.wanted(part, m.state.night) : w == 3 ? m.told.people.stream()
                        .filter(p -> m.knows(m.state, m.told.people.indexOf(p), part, m.state.night)).count() : -1;
                due(call, x.part(part, w), want);
            }
            case 4 -> due(call, x.knows(who, part, night),
                !known || !Model.night(night) ? -1 : m.knows(m.state, who, part, night) ? 1 : 0);
            case 5 -> {
                int to = about(m.told.parts.size());
                due(call, x.steps(part, to), m.part(part) && m.part(to) ? m.steps(part, to) : -1);
            }
            case 6 -> due(call, x.chance(who, part), known && tonight ? m.chance(m.state, who, part) : -1);
            case 7 -> {
                Knot law = what == 0 ? m.told.out : what == 1 ? m.told.pick : null;
                BigInteger value = known && tonight ? m.law(law, m.state, who, part) : null;
                due(call, x.law(what, who, part), value == null ? Long.MIN_VALUE : value.longValue());
            }
            case 8, 9, 10, 11 -> loseOne(call, who, random.nextInt(8) == 0 ? -1 : part);
            case 12, 13 -> goBy(call, random.nextInt(60) == 0 ? random.nextInt(210) - 5 : random.nextInt(3));
            case 14, 15 -> ledBy(call, party, what);
            case 16 -> {
                int want = -1;
                if (m.part(part) && m.party(party)) {
                    Party p = m.told.parties.get(party);
                    Set<Integer> without = m.all();
                    without.remove(part);
                    int with = m.fewestParts(p.from(), p.to(), m.all());
                    int less = m.fewestParts(p.from(), p.to(), without);
                    want = with < 0 || part == p.from() || part == p.to() ? -1 : less < 0 ? -2 : less - with;
                }
                due(call, x.round(party, part), want);
            }
            case 17, 18 -> shareOut(call, night, random.nextInt(3) == 0 ? -1 : party);
            case 19 -> due(call, x.worth(who, night), !m.person(who) || !Model.night(night) ? -1
                : m.share(night, who).get(0) - m.share(night, -1).get(0));
            case 20 -> {
                int parts = about(1 << m.told.parts.size());
                boolean fine = parts >= 0 && parts < 1 << m.told.parts.size() && Model.night(night);
                due(call, x.stranger(parts, night),
                    fine ? m.prices(m.state, night, parts) - m.prices(m.state, night, 0) : -1);
            }
            case 21 -> {
                int parties = about(1 << m.told.parties.size());
                boolean fine = parties >= 0 && parties < 1 << m.told.parties.size() && (what == 0 || what == 1);
                int want = fine ? m.fewest(parties) : -1;
                due(call, x.fewest(parties, what), want >= 0 && what == 0 ? Integer.bitCount(want) : want);
            }
            case 22, 23 -> orderOf(call, who, about(1 << m.told.parts.size()));
            case 24, 25 -> {
                int master = about(4);
                int[] pair = master >= 0 && master <= 3 ? m.pick(m.state, master) : null;
                due(call, x.pick(master, what), master < 0 || master > 3 || what < 0 || what > 1 ? -1
                    : pair == null ? -2 : pair[what]);
            }
            case 26 -> playSeason(call);
            case 27 -> {
                boolean fine = known && Model.night(night % 3) && m.claims.size() < 12;
                due(call, x.claim(who, night % 3, part), fine ? m.claims.size() : -1);
                if (fine) {
                    m.claims.add(new Claim(who, night % 3, part));
                }
            }
            case 28 -> {
                due(call, x.wrongly(), m.wrongly());
                int c = about(m.claims.size());
                due(call, x.against(c), c < 0 || c >= m.claims.size() ? -1
                    : m.claims.stream().filter(o -> m.clash(o, m.claims.get(c))).count());
            }
            case 29 -> {
                boolean fine = m.part(part) && m.state.slides.size() < 12;
                due(call, x.slide(part), fine ? m.state.slides.size() + 1 : -1);
                if (fine) {
                    m.state.slides.add(new Slide(part, m.state.night));
                    m.remember(new Undo(null, null));
                }
            }
            case 30, 31 -> undoOne(call);
            case 32 -> keepOrGoBack(call);
            default -> counts(call);
        }
    }

    private void lookAt(String call, int who, int what) {
        long want = 0;
        int fails = !m.person(who) ? 1 : what < 0 || what > 5 ? 2 : 0;
        if (fails == 0) {
            want = switch (what) {
                case 0 -> m.there(m.state, who, m.state.night) ? 1 : 0;
                case 1 -> m.state.gone.contains(who) ? 1 : 0;
                case 2 -> Model.bits(m.known(m.state, who, m.state.night));
                case 3 -> m.state.times.getOrDefault(who, 0);
                case 4 -> m.told.people.get(who).cost();
                default -> m.state.lost.getOrDefault(who, -1);
            };
        }
        int failed = 0;
        try {
            due(call + " look " + what, x.look(who, what), want);
        } catch (IndexOutOfBoundsException e) {
            failed = 1;
        } catch (NoSuchElementException e) {
            failed = 2;
        }
        due(call + " look " + what + " throws", failed, fails);
    }

    private void loseOne(String call, int who, int part) {
        boolean fine = m.person(who) && m.there(m.state, who, m.state.night) && (part == -1 || m.part(part));
        due(call, x.lose(who, part) ? 1 : 0, fine ? 1 : 0);
        if (fine) {
            m.remember(new Undo(who, m.state.lost.get(who)));
            m.state.lost.remove(who);
            if (part >= 0) {
                m.state.lost.put(who, part);
            }
        }
    }

    private void goBy(String call, int n) {
        boolean fine = n >= 0 && n <= 200 && m.state.night + n <= 1000;
        for (int i = 0; i < n && fine; i++) {
            m.goBy(m.state);
            m.undo.clear();
        }
        due(call, x.nights(n), fine ? m.state.night : -1);
    }

    private void ledBy(String call, int party, int what) {
        boolean fine = m.party(party) && (what == 0 || what == 1);
        Led led = fine ? m.led(m.state, m.told.parties.get(party), 0) : null;
        due(call + " led", x.led(party, what), !fine ? -1 : led == null ? -2 : what == 0 ? led.hands() : led.parts().size());
        for (int k = -1; k < 9; k++) {
            long want = !fine || k < 0 ? -1 : led == null || k >= led.parts().size() ? -2
                : what == 0 ? led.parts().get(k) : led.guides().get(k);
            due(call + " way " + k, x.way(party, k, what), want);
        }
    }

    private void shareOut(String call, int night, int what) {
        boolean fine = Model.night(night) && (what == -1 || m.party(what));
        List<Integer> share = fine ? m.share(night, -1) : null;
        due(call, x.share(night, what), !fine ? -1 : what == -1 ? -share.get(0)
            : share.get(what + 1) == 99 ? -2 : share.get(what + 1));
    }

    private void orderOf(String call, int who, int parts) {
        if (Integer.bitCount(parts) > 5 && random.nextInt(30) > 0) {
            parts &= 0x1f;
        }
        boolean fine = m.thereAll(who, parts);
        if (fine) {
            m.order(who, parts);
        }
        BigInteger hundreds = BigInteger.valueOf(100).pow(Integer.bitCount(parts));
        for (int what = -1; what < 3; what++) {
            long want = -1;
            if (fine && (what == 0 || what == 1)) {
                want = (what == 0 ? m.bestProduct : hundreds).divide(m.bestProduct.gcd(hundreds)).longValue();
            }
            due(call + " order " + parts + " " + what, x.order(who, parts, what), want);
        }
        for (int k = -1; k < 9; k++) {
            due(call + " ordered " + parts + " " + k, x.ordered(who, parts, k),
                !fine || k < 0 ? -1 : k >= m.bestOrder.size() ? -2 : m.bestOrder.get(k));
        }
    }

    private void playSeason(String call) {
        int master = about(4);
        int seed = random.nextInt(20) == 0 ? -1 : random.nextInt() & Integer.MAX_VALUE;
        int n = random.nextInt(30) == 0 ? random.nextInt(60) - 2 : 1 + random.nextInt(10);
        int what = about(3);
        boolean fine = master >= 0 && master < 4 && seed >= 0 && n >= 1 && n <= 50 && what >= 0 && what <= 2;
        due(call + " season " + master + " " + seed + " " + n + " " + what, x.season(master, seed, n, what),
            fine ? m.season(master, seed, n, what) : Integer.MIN_VALUE);
    }

    private void undoOne(String call) {
        int want = m.undo.size() - 1;
        if (want >= 0) {
            Undo u = m.undo.remove(want);
            if (u.person() == null) {
                m.state.slides.remove(m.state.slides.size() - 1);
            } else if (u.part() == null) {
                m.state.lost.remove(u.person());
            } else {
                m.state.lost.put(u.person(), u.part());
            }
        }
        due(call, x.undo(), want);
    }

    private void keepOrGoBack(String call) {
        if (random.nextInt(3) == 0) {
            m.image = m.state.copy();
            due(call, x.keep(), m.state.night);
        } else {
            if (m.image != null) {
                m.state = m.image.copy();
                m.undo.clear();
            }
            due(call, x.back(), m.image == null ? -1 : m.state.night);
        }
    }

    private void counts(String call) {
        int[] want = {m.told.parts.size(), m.told.people.size(), m.told.parties.size(), m.state.slides.size(),
            m.told.knots, m.state.night, m.claims.size(), m.state.gone.size(), m.undo.size(), m.told.near()};
        for (int what = -1; what <= 10; what++) {
            due(call + " count " + what, x.count(what), what < 0 || what > 9 ? -1 : want[what]);
        }
        int what = about(2);
        int letters = random.nextInt(9) << 25;
        due(call + " named", x.named(what, letters), m.named(what, letters));
        letters = (random.nextInt(3) + 24) << 25;
        due(call + " named", x.named(what, letters), m.named(what, letters));
    }

    private void run() {
        for (int i = random.nextInt(3); i > 0; i--) {
            String text = spoil(text());
            tell(text, text.length());
        }
        String text = text();
        tell(text, text.length());
        for (int i = 0; i < 120; i++) {
            call();
            story.append('.');
        }
        if (random.nextInt(4) == 0) {
            String other = random.nextBoolean() ? text() : spoil(text());
            tell(other, random.nextInt(6) == 0 ? random.nextInt(other.length() + 30) : other.length());
            for (int i = 0; i < 60; i++) {
                call();
            }
        }
    }

    public static void main(String[] args) {
        int runs = args.length > 0 ? Integer.parseInt(args[0]) : 3000;
        int first = args.length > 1 ? Integer.parseInt(args[1]) : 0;
        for (int seed = first; seed < first + runs && !isTooWrong(); seed++) {
            new MoorGuidesRandomRuns(seed).run();
        }
        end();
    }
}
