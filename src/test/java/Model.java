import java.util.ArrayList;
import java.util.Arrays;
import java.util.HashMap;
import java.util.List;
import java.util.Map;
import java.util.NoSuchElementException;

/**
 * The document once more, in the plainest way and by other means than the program (recursive descent, walks
 * over all ways, all orders one by one), so that the two can be held against each other.
 */
final class Model {
    static final long MIN = Long.MIN_VALUE;

    static final class Noise {
        int place, owner, from, to, loud;
        boolean stopped;

        Noise(int place, int owner, int from, int to, int loud) {
            this.place = place;
            this.owner = owner;
            this.from = from;
            this.to = to;
            this.loud = loud;
        }

        Noise copy() {
            Noise n = new Noise(place, owner, from, to, loud);
            n.stopped = stopped;
            return n;
        }
    }

    /** One of a link (a, b, length), claim or right (owner, place, from, to), task (owner, place, many, loud). */
    static final class Fact {
        int a, b, c, d;

        Fact(int a, int b, int c, int d) {
            this.a = a;
            this.b = b;
            this.c = c;
            this.d = d;
        }
    }

    static final class World {
        List<String> places = new ArrayList<>(), owners = new ArrayList<>();
        List<Integer> coins = new ArrayList<>(), heirs = new ArrayList<>();
        List<Fact> links = new ArrayList<>(), claims = new ArrayList<>(), rights = new ArrayList<>(), tasks = new ArrayList<>();
        List<Noise> noises = new ArrayList<>();
        List<Boolean> walls = new ArrayList<>();
        Map<Integer, Integer> dogs = new HashMap<>();
        Node fade, worth;
        int knots, lines, minute, wall = 5, fine = 1;
        /** What was worked out already; a copy begins without, and is changed before it is asked. */
        final Map<Integer, Integer> fars = new HashMap<>(), firsts = new HashMap<>();

        void changed() {
            fars.clear();
            firsts.clear();
        }

        World copy() {
            World w = new World();
            w.places = places;
            w.owners = owners;
            w.coins = new ArrayList<>(coins);
            w.heirs = heirs;
            w.links = new ArrayList<>(links);
            for (Fact f : claims) {
                w.claims.add(new Fact(f.a, f.b, f.c, f.d));
            }
            w.rights = rights;
            w.tasks = tasks;
            for (Noise n : noises) {
                w.noises.add(n.copy());
            }
            w.walls = new ArrayList<>(walls);
            w.dogs = dogs;
            w.fade = fade;
            w.worth = worth;
            w.knots = knots;
            w.lines = lines;
            w.minute = minute;
            w.wall = wall;
            w.fine = fine;
            return w;
        }
    }

    static final class Fault extends RuntimeException {
        private static final long serialVersionUID = 1;
        final int kind, at;

        Fault(int kind, int at) {
            this.kind = kind;
            this.at = at;
        }
    }

    static final class Wrong extends RuntimeException {
        private static final long serialVersionUID = 1;
    }

    static final class Node {
        final String sign;
        final Node one, other;

        Node(String sign, Node one, Node other) {
            this.sign = sign;
            this.one = one;
            this.other = other;
        }

        long value(Map<String, Integer> names) {
            if (one == null) {
                return Character.isDigit(sign.charAt(0)) ? Long.parseLong(sign) : names.getOrDefault(sign, 0);
            }
            long a = one.value(names);
            if (sign.equals("not")) {
                return a == 0 ? 1 : 0;
            }
            long b = other.value(names);
            java.math.BigInteger x = java.math.BigInteger.valueOf(a), y = java.math.BigInteger.valueOf(b), z;
            switch (sign) {
                case "or":
                    return a != 0 | b != 0 ? 1 : 0;
                case "and":
                    return a != 0 & b != 0 ? 1 : 0;
                case "<":
                    return a < b ? 1 : 0;
                case "<=":
                    return a <= b ? 1 : 0;
                case "=":
                    return a == b ? 1 : 0;
                case "<>":
                    return a != b ? 1 : 0;
                case ">=":
                    return a >= b ? 1 : 0;
                case ">":
                    return a > b ? 1 : 0;
                case "+":
                    z = x.add(y);
                    break;
                case "-":
                    z = x.subtract(y);
                    break;
                case "*":
                    z = x.multiply(y);
                    break;
                default:
                    if (b == 0) {
                        throw new Wrong();
                    }
                    z = x.divide(y);
                    break;
            }
            if (z.abs().compareTo(java.math.BigInteger.valueOf(1000000000000L)) > 0) {
                throw new Wrong();
            }
            return z.longValue();
        }
    }

    // ---- reading

    static final List<String> TONGUE = Arrays.asList("place", "link", "owner", "heir", "noise", "claim", "right", "task",
            "dog", "wall", "fine", "seed", "law", "fade", "worth", "or", "and", "not", "loud", "far", "minute", "long",
            "many", "who");

    static final class Parser {
        final String text;
        int at, end;
        String token;
        int open;
        final World w = new World();
        boolean wallTold, fineTold, seedTold;

        Parser(String text) {
            this.text = text;
            next();
        }

        void next() {
            at = end;
            while (at < text.length() && (text.charAt(at) == ' ' || text.charAt(at) == '\n')) {
                at++;
            }
            end = at;
            if (at == text.length()) {
                token = "";
                return;
            }
            java.util.regex.Matcher m = java.util.regex.Pattern.compile("[a-z]+|[0-9]+|<=|<>|>=|[;()+*/<=>-]").matcher(text);
            m.region(at, text.length());
            if (!m.lookingAt()) {
                token = "?";
                return;
            }
            token = m.group();
            end = m.end();
            if (token.matches("[a-z]{7,}")) {
                token = "?";
            }
        }

        Fault bad(int kind) {
            return new Fault(kind, at);
        }

        boolean isNumber() {
            return token.matches("[0-9]+");
        }

        String word() {
            if (!token.matches("[a-z]+") || TONGUE.contains(token)) {
                throw bad(1);
            }
            return token;
        }

        int number(int least, int most) {
            if (!isNumber()) {
                throw bad(1);
            }
            java.math.BigInteger n = new java.math.BigInteger(token);
            if (n.bitLength() > 30 || n.intValue() < least || n.intValue() > most) {
                throw bad(2);
            }
            next();
            return n.intValue();
        }

        int told(List<String> names) {
            int i = names.indexOf(word());
            if (i < 0) {
                throw bad(4);
            }
            return i;
        }

        void room(int has, int most) {
            if (has >= most) {
                throw bad(2);
            }
            next();
        }

        World read() {
            while (!token.isEmpty()) {
                line();
                if (!token.equals(";")) {
                    throw bad(1);
                }
                next();
                w.lines++;
            }
            return w;
        }

        void line() {
            switch (token) {
                case "place":
                    room(w.places.size(), 6);
                    if (w.places.contains(word())) {
                        throw bad(3);
                    }
                    w.places.add(token);
                    next();
                    break;
                case "owner":
                    room(w.owners.size(), 4);
                    if (w.owners.contains(word())) {
                        throw bad(3);
                    }
                    w.owners.add(token);
                    next();
                    w.coins.add(number(0, 999));
                    w.heirs.add(-1);
                    break;
                case "link": {
                    room(w.links.size(), 9);
                    int a = told(w.places);
                    next();
                    int b = told(w.places);
                    for (Fact f : w.links) {
                        if (f.a == a && f.b == b || f.a == b && f.b == a) {
                            throw bad(3);
                        }
                    }
                    if (a == b) {
                        throw bad(5);
                    }
                    next();
                    w.links.add(new Fact(a, b, number(1, 9), 0));
                    w.walls.add(false);
                    break;
                }
                case "heir": {
                    next();
                    int a = told(w.owners);
                    if (w.heirs.get(a) >= 0) {
                        throw bad(3);
                    }
                    next();
                    int b = told(w.owners);
                    if (a == b) {
                        throw bad(5);
                    }
                    w.heirs.set(a, b);
                    next();
                    break;
                }
                case "noise": {
                    room(w.noises.size(), 8);
                    int p = told(w.places);
                    next();
                    int o = told(w.owners);
                    next();
                    int from = number(0, 47);
                    int to = number(from, 47);
                    w.noises.add(new Noise(p, o, from, to, number(1, 20)));
                    break;
                }
                case "claim":
                case "right":
                case "task": {
                    boolean task = token.equals("task");
                    List<Fact> list = task ? w.tasks : token.equals("claim") ? w.claims : w.rights;
                    room(list.size(), task ? 4 : token.equals("claim") ? 8 : 6);
                    int o = told(w.owners);
                    next();
                    int p = told(w.places);
                    next();
                    int c = task ? number(1, 12) : number(0, 47);
                    list.add(new Fact(o, p, c, task ? number(1, 20) : number(c, 47)));
                    break;
                }
                case "dog": {
                    next();
                    int p = told(w.places);
                    if (w.dogs.containsKey(p)) {
                        throw bad(3);
                    }
                    next();
                    w.dogs.put(p, number(1, 20));
                    break;
                }
                default:
                    once();
                    break;
            }
        }

        void once() {
            boolean had;
            switch (token) {
                case "wall":
                    had = wallTold;
                    wallTold = true;
                    break;
                case "fine":
                    had = fineTold;
                    fineTold = true;
                    break;
                case "seed":
                    had = seedTold;
                    seedTold = true;
                    break;
                case "law":
                    law();
                    return;
                default:
                    throw bad(1);
            }
            if (had) {
                throw bad(3);
            }
            String kind = token;
            next();
            if (kind.equals("wall")) {
                w.wall = number(1, 9);
            } else if (kind.equals("fine")) {
                w.fine = number(0, 9);
            } else {
                number(0, 99999);
            }
        }

        void law() {
            next();
            if (!token.equals("fade") && !token.equals("worth")) {
                throw bad(1);
            }
            boolean fade = token.equals("fade");
            if ((fade ? w.fade : w.worth) != null) {
                throw bad(3);
            }
            next();
            Node e = any();
            if (fade) {
                w.fade = e;
            } else {
                w.worth = e;
            }
        }

        String knot() {
            if (w.knots == 64) {
                throw bad(2);
            }
            w.knots++;
            String sign = token;
            next();
            return sign;
        }

        Node any() {
            Node one = all();
            while (token.equals("or")) {
                one = new Node(knot(), one, all());
            }
            return one;
        }

        Node all() {
            Node one = not();
            while (token.equals("and")) {
                one = new Node(knot(), one, not());
            }
            return one;
        }

        Node not() {
            return token.equals("not") ? new Node(knot(), not(), null) : compared();
        }

        Node compared() {
            Node one = sum();
            return Arrays.asList("<", "<=", "=", "<>", ">=", ">").contains(token) ? new Node(knot(), one, sum()) : one;
        }

        Node sum() {
            Node one = product();
            while (token.equals("+") || token.equals("-")) {
                one = new Node(knot(), one, product());
            }
            return one;
        }

        Node product() {
            Node one = prime();
            while (token.equals("*") || token.equals("/")) {
                one = new Node(knot(), one, prime());
            }
            return one;
        }

        Node prime() {
            if (token.equals("(")) {
                if (open == 8) {
                    throw bad(2);
                }
                open++;
                next();
                Node e = any();
                if (!token.equals(")")) {
                    throw bad(1);
                }
                open--;
                next();
                return e;
            }
            if (TONGUE.indexOf(token) >= 18) {
                return new Node(knot(), null, null);
            }
            if (!isNumber()) {
                throw bad(1);
            }
            if (new java.math.BigInteger(token).bitLength() > 30 || Integer.parseInt(token) > 9999) {
                throw bad(2);
            }
            return new Node(knot(), null, null);
        }
    }

    // ---- state

    StringBuilder tape = new StringBuilder();
    int faultKind, faultAt = -1;
    World now = new World();
    World image;
    List<World> before = new ArrayList<>();
    /** Notes: place, minute, 1 or 0; a strike: -1, note. */
    List<int[]> notes = new ArrayList<>();
    int knownBy = -1;

    int feed(int a, int b, int c, int d, int e) {
        if (tape.length() + 20 > 700) {
            return -1;
        }
        for (int n : new int[] {a, b, c, d, e}) {
            for (int i = 3; i >= 0; i--) {
                tape.append((char) (n >> 8 * i & 255));
            }
        }
        return tape.length();
    }

    int text(int n) {
        if (n < 0 || n > tape.length()) {
            return -2;
        }
        String text = tape.substring(0, n);
        tape.setLength(0);
        faultKind = 0;
        faultAt = -1;
        try {
            now = new Parser(text).read();
        } catch (Fault f) {
            faultKind = f.kind;
            faultAt = f.at;
            return -1;
        }
        image = null;
        before.clear();
        notes.clear();
        knownBy = -1;
        return now.lines;
    }

    int fault(int what) {
        return what == 0 ? faultKind : what == 1 ? faultAt : -1;
    }

    int named(int what, int letters) {
        List<String> names = what == 0 ? now.places : what == 1 ? now.owners : new ArrayList<>();
        for (String s : names) {
            int bits = 0;
            for (int i = 0; i < s.length(); i++) {
                bits += s.charAt(i) - 96 << 25 - 5 * i;
            }
            if (bits == letters) {
                return names.indexOf(s);
            }
        }
        return -1;
    }

    // ---- sound

    static int far(World w, int a, int b) {
        return w.fars.computeIfAbsent(a * 6 + b, k -> walk(w, a, b, 1 << a));
    }

    private static int walk(World w, int a, int b, int seen) {
        if (a == b) {
            return 0;
        }
        int best = -2;
        for (int i = 0; i < w.links.size(); i++) {
            Fact f = w.links.get(i);
            int to = f == null ? -1 : f.a == a ? f.b : f.b == a ? f.a : -1;
            if (to >= 0 && (seen & 1 << to) == 0) {
                int rest = walk(w, to, b, seen | 1 << to);
                int sum = f.c + (w.walls.get(i) ? w.wall : 0) + rest;
                if (rest >= 0 && (best < 0 || sum < best)) {
                    best = sum;
                }
            }
        }
        return best;
    }


    static boolean hears(World w, Noise n, int place, int minute) {
        if (n.stopped || minute < n.from || minute > n.to) {
            return false;
        }
        int far = far(w, n.place, place);
        if (far < 0) {
            return false;
        }
        long remains = n.loud - far;
        if (w.fade != null) {
            try {
                remains = w.fade.value(Map.of("loud", n.loud, "far", far, "minute", minute));
            } catch (Wrong e) {
                remains = n.loud - far;
            }
        }
        return remains >= 1;
    }

    static int first(World w, int place, int minute) {
        return w.firsts.computeIfAbsent(place * 48 + minute, k -> firstHeard(w, place, minute));
    }

    private static int firstHeard(World w, int place, int minute) {
        for (int i = 0; i < w.noises.size(); i++) {
            if (hears(w, w.noises.get(i), place, minute)) {
                return i;
            }
        }
        return -2;
    }

    static boolean silent(World w, int place, int minute) {
        return first(w, place, minute) < 0;
    }

    static int silents(World w) {
        int sum = 0;
        for (int i = 0; i < w.places.size() * 48; i++) {
            sum += silent(w, i / 48, i % 48) ? 1 : 0;
        }
        return sum;
    }

    static int claimed(World w, int place, int minute) {
        for (Fact f : w.claims) {
            if (f.b == place && f.c <= minute && minute <= f.d) {
                return f.a;
            }
        }
        return -1;
    }

    static int whose(World w, int place, int minute) {
        if (!silent(w, place, minute)) {
            return -3;
        }
        if (claimed(w, place, minute) >= 0) {
            return claimed(w, place, minute);
        }
        for (int m = minute - 1; m >= 0; m--) {
            int n = first(w, place, m);
            if (n >= 0) {
                return w.noises.get(n).owner;
            }
        }
        return -2;
    }

    static boolean trespass(World w, Noise n, int place, int minute) {
        int by = claimed(w, place, minute);
        if (!hears(w, n, place, minute) || by < 0 || by == n.owner) {
            return false;
        }
        for (Fact r : w.rights) {
            if (r.a == n.owner && r.b == place && r.c <= minute && minute <= r.d) {
                return false;
            }
        }
        return true;
    }

    boolean place(int p) {
        return p >= 0 && p < now.places.size();
    }

    boolean own(int o) {
        return o >= 0 && o < now.owners.size();
    }

    static boolean minute(int m) {
        return m >= 0 && m <= 47;
    }

    int owner(int owner, int what) {
        if (!own(owner)) {
            throw new IndexOutOfBoundsException();
        }
        int sum = 0;
        switch (what) {
            case 0:
                return now.coins.get(owner);
            case 1:
                return now.heirs.get(owner);
            case 2:
                for (int i = 0; i < now.places.size() * 48; i++) {
                    sum += whose(now, i / 48, i % 48) == owner ? 1 : 0;
                }
                return sum;
            case 3:
            case 4:
                for (int i = 0; i < now.places.size() * 48; i++) {
                    for (Noise n : now.noises) {
                        boolean mine = (what == 3 ? n.owner : claimed(now, i / 48, i % 48)) == owner;
                        sum += mine && trespass(now, n, i / 48, i % 48) ? 1 : 0;
                    }
                }
                return sum;
            default:
                throw new NoSuchElementException();
        }
    }

    int noise(int i, int what) {
        if (i < 0 || i >= now.noises.size() || what < 0 || what > 5) {
            return -1;
        }
        Noise n = now.noises.get(i);
        return new int[] {n.place, n.owner, n.from, n.to, n.loud, n.stopped ? 1 : 0}[what];
    }

    int claim(int i, int what) {
        if (i < 0 || i >= now.claims.size() || what < 0 || what > 3) {
            return -1;
        }
        Fact f = now.claims.get(i);
        return new int[] {f.a, f.b, f.c, f.d}[what];
    }

    int link(int i, int what) {
        if (i < 0 || i >= now.links.size() || what < 0 || what > 3) {
            return -1;
        }
        Fact f = now.links.get(i);
        return new int[] {f.a, f.b, f.c, now.walls.get(i) ? 1 : 0}[what];
    }

    int far(int a, int b) {
        return place(a) && place(b) ? far(now, a, b) : -1;
    }

    long law(int what, int a, int b, int c) {
        for (int n : new int[] {a, b, c}) {
            if (n < 0 || n > 9999) {
                return MIN;
            }
        }
        Node e = what == 0 ? now.fade : what == 1 ? now.worth : null;
        if (e == null) {
            return MIN;
        }
        try {
            return e.value(what == 0 ? Map.of("loud", a, "far", b, "minute", c) : Map.of("long", a, "many", b, "who", c));
        } catch (Wrong w) {
            return MIN;
        }
    }

    int heard(int p, int m) {
        return place(p) && minute(m) ? first(now, p, m) : -1;
    }

    long hush(int p) {
        long bits = 0;
        for (int m = 0; m < 48 && place(p); m++) {
            bits |= silent(now, p, m) ? 1L << m : 0;
        }
        return place(p) ? bits : -1;
    }

    int whose(int p, int m) {
        return place(p) && minute(m) ? whose(now, p, m) : -1;
    }

    // ---- pieces

    /** Each span: place, from, to, piece. */
    List<int[]> spanList() {
        List<int[]> spans = new ArrayList<>();
        for (int p = 0; p < now.places.size(); p++) {
            for (int m = 0; m < 48; m++) {
                if (silent(now, p, m)) {
                    int[] last = spans.isEmpty() ? null : spans.get(spans.size() - 1);
                    if (last != null && last[0] == p && last[2] == m - 1) {
                        last[2] = m;
                    } else {
                        spans.add(new int[] {p, m, m, spans.size()});
                    }
                }
            }
        }
        // The least number of all that touch wins, till nothing changes.
        boolean changes = true;
        while (changes) {
            changes = false;
            for (int[] a : spans) {
                for (int[] b : spans) {
                    if (a[3] < b[3] && touch(a, b)) {
                        b[3] = a[3];
                        changes = true;
                    }
                }
            }
        }
        List<Integer> heads = new ArrayList<>();
        for (int[] a : spans) {
            if (!heads.contains(a[3])) {
                heads.add(a[3]);
            }
            a[3] = heads.indexOf(a[3]);
        }
        return spans;
    }

    boolean touch(int[] a, int[] b) {
        for (int i = 0; i < now.links.size(); i++) {
            Fact f = now.links.get(i);
            if (!now.walls.get(i) && (f.a == a[0] && f.b == b[0] || f.b == a[0] && f.a == b[0])) {
                for (int m = 0; m < 48; m++) {
                    if (a[1] <= m && m <= a[2] && b[1] <= m && m <= b[2]) {
                        return true;
                    }
                }
            }
        }
        return false;
    }

    int spans() {
        return spanList().size();
    }

    int span(int k, int what) {
        if (k < 0 || what < 0 || what > 3) {
            return -1;
        }
        List<int[]> spans = spanList();
        return k < spans.size() ? spans.get(k)[what] : -2;
    }

    int pieces() {
        int most = 0;
        for (int[] a : spanList()) {
            most = Math.max(most, a[3] + 1);
        }
        return most;
    }

    /** The minutes of a piece that are of the owners in the set (bits), or all (-1): place * 48 + minute. */
    List<Integer> minutes(int piece, int set) {
        List<Integer> all = new ArrayList<>();
        for (int[] a : spanList()) {
            for (int m = a[1]; m <= a[2] && a[3] == piece; m++) {
                int who = whose(now, a[0], m);
                if (set == -1 || who >= 0 && (set >> who & 1) == 1) {
                    all.add(a[0] * 48 + m);
                }
            }
        }
        return all;
    }

    int owners(int piece) {
        int bits = 0;
        for (int o = 0; o < now.owners.size(); o++) {
            bits |= minutes(piece, 1 << o).isEmpty() ? 0 : 1 << o;
        }
        return bits;
    }

    int worth(List<Integer> minutes, int who) {
        if (minutes.isEmpty()) {
            return 0;
        }
        List<Integer> places = new ArrayList<>();
        int first = 48;
        for (int i : minutes) {
            if (!places.contains(i / 48)) {
                places.add(i / 48);
            }
            first = Math.min(first, i % 48);
        }
        if (now.worth == null) {
            return minutes.size();
        }
        try {
            long v = now.worth.value(Map.of("long", minutes.size(), "many", places.size(), "who", who, "minute", first));
            return v < 0 ? 0 : v > 9999 ? 9999 : (int) v;
        } catch (Wrong e) {
            return minutes.size();
        }
    }

    int piece(int k, int what) {
        if (k < 0 || what < 0 || what > 5) {
            return -1;
        }
        if (k >= pieces()) {
            return -2;
        }
        List<Integer> all = minutes(k, -1);
        switch (what) {
            case 0:
                return all.size();
            case 1:
                return (int) all.stream().map(i -> i / 48).distinct().count();
            case 2:
                return owners(k);
            case 3:
                return worth(all, Integer.bitCount(owners(k)));
            case 4:
                return all.stream().mapToInt(i -> i % 48).min().getAsInt();
            default:
                return (int) spanList().stream().filter(a -> a[3] == k).count();
        }
    }

    int share(int k, int o) {
        return k < 0 || !own(o) ? -1 : k >= pieces() ? -2 : minutes(k, 1 << o).size();
    }

    int part(int k, int o) {
        if (k < 0 || !own(o)) {
            return -1;
        }
        if (k >= pieces()) {
            return -2;
        }
        int all = owners(k);
        return (all >> o & 1) == 0 ? 0 : orders(k, o, all, 0);
    }

    private int orders(int k, int o, int all, int come) {
        int sum = 0;
        for (int next = 0; next < 4; next++) {
            int bit = 1 << next;
            if ((all & bit) != 0 && (come & bit) == 0) {
                if (next == o) {
                    int more = setWorth(k, come | bit) - setWorth(k, come);
                    for (int i = 2; i <= Integer.bitCount(all & ~come & ~bit); i++) {
                        more *= i;
                    }
                    sum += more;
                } else {
                    sum += orders(k, o, all, come | bit);
                }
            }
        }
        return sum;
    }

    int setWorth(int k, int set) {
        return worth(minutes(k, set), Integer.bitCount(set));
    }

    int leaves(int k) {
        if (k < 0) {
            return -1;
        }
        if (k >= pieces()) {
            return -2;
        }
        int all = owners(k);
        for (int set = 1; set <= all; set++) {
            if ((set & all) == set && (long) setWorth(k, set) * minutes(k, all).size()
                    > (long) piece(k, 3) * minutes(k, set).size()) {
                return set;
            }
        }
        return 0;
    }

    // ---- changes

    private void changing() {
        before.add(now.copy());
        if (before.size() > 20) {
            before.remove(0);
        }
    }

    int make(int p, int o, int from, int to, int loud) {
        if (!place(p) || !own(o) || !minute(from) || !minute(to) || to < from || loud < 1 || loud > 20
                || now.noises.size() == 12) {
            return -1;
        }
        changing();
        now.noises.add(new Noise(p, o, from, to, loud));
        now.changed();
        return now.noises.size() - 1;
    }

    boolean stop(int i) {
        if (i < 0 || i >= now.noises.size() || now.noises.get(i).stopped) {
            return false;
        }
        changing();
        now.noises.get(i).stopped = true;
        now.changed();
        return true;
    }

    boolean wall(int i, boolean is) {
        if (i < 0 || i >= now.links.size() || now.walls.get(i) == is) {
            return false;
        }
        changing();
        now.walls.set(i, is);
        now.changed();
        return true;
    }

    boolean sell(int c, int o, int price) {
        if (c < 0 || c >= now.claims.size() || !own(o) || price < 0 || price > 999 || now.claims.get(c).a == o
                || now.coins.get(o) < price) {
            return false;
        }
        changing();
        int seller = now.claims.get(c).a;
        now.coins.set(o, now.coins.get(o) - price);
        now.coins.set(seller, now.coins.get(seller) + price);
        now.claims.get(c).a = o;
        return true;
    }

    int go(int n) {
        if (n < 0 || n > 48 || now.minute + n > 48) {
            return -1;
        }
        for (int i = 0; i < n; i++, now.minute++) {
            before.clear();
            for (int p = 0; p < now.places.size(); p++) {
                for (Noise noise : now.noises) {
                    if (trespass(now, noise, p, now.minute)) {
                        int to = claimed(now, p, now.minute);
                        int paid = Math.min(now.fine, now.coins.get(noise.owner));
                        now.coins.set(noise.owner, now.coins.get(noise.owner) - paid);
                        now.coins.set(to, now.coins.get(to) + paid);
                    }
                }
            }
        }
        return now.minute;
    }

    // ---- tasks, walls, dogs

    int[] bestOrder, bestStarts;
    int bestEnd;

    void search(List<Integer> order) {
        int n = now.tasks.size();
        for (int t = 0; t < n && order.size() < n; t++) {
            if (!order.contains(t)) {
                List<Integer> more = new ArrayList<>(order);
                more.add(t);
                search(more);
            }
        }
        if (order.size() < n || n == 0) {
            return;
        }
        int[] starts = new int[n];
        int end = -1;
        for (int k = 0; k < n; k++) {
            Fact t = now.tasks.get(order.get(k));
            starts[k] = -1;
            for (int s = 47; s >= 0; s--) {
                boolean good = s + t.c - 1 <= 47;
                for (int m = s; m < s + t.c && good; m++) {
                    Noise noise = new Noise(t.b, t.a, m, m, t.d);
                    for (int p = 0; p < now.places.size(); p++) {
                        good &= !trespass(now, noise, p, m);
                    }
                    for (int j = 0; j < k; j++) {
                        Fact u = now.tasks.get(order.get(j));
                        good &= u.a != t.a || m < starts[j] || m >= starts[j] + u.c;
                    }
                }
                starts[k] = good ? s : starts[k];
            }
            if (starts[k] < 0) {
                return;
            }
            end = Math.max(end, starts[k] + t.c - 1);
        }
        if (bestEnd < 0 || end < bestEnd) {
            bestEnd = end;
            bestStarts = starts;
            bestOrder = order.stream().mapToInt(i -> i).toArray();
        }
    }

    int plan() {
        bestEnd = -2;
        search(new ArrayList<>());
        return now.tasks.isEmpty() ? -1 : bestEnd;
    }

    int planned(int k, int what) {
        if (k < 0 || what < 0 || what > 1) {
            return -1;
        }
        if (plan() < 0 || k >= now.tasks.size()) {
            return -2;
        }
        return what == 0 ? bestOrder[k] : bestStarts[k];
    }

    int walls(int noise, int p) {
        if (noise < 0 || noise >= now.noises.size() || !place(p)) {
            return -1;
        }
        for (int many = 0; many <= 9; many++) {
            for (int bits = 0; bits < 1 << now.links.size(); bits++) {
                World w = now.copy();
                boolean good = Integer.bitCount(bits) == many;
                for (int i = 0; i < now.links.size(); i++) {
                    if ((bits >> i & 1) == 1) {
                        good &= !w.walls.get(i);
                        w.walls.set(i, true);
                    }
                }
                for (int m = 0; m < 48 && good; m++) {
                    good = !hears(w, w.noises.get(noise), p, m);
                }
                if (good) {
                    return bits;
                }
            }
        }
        return -2;
    }

    int bark(int dogs, int what) {
        for (int i = 0; i < 32; i++) {
            if ((dogs >> i & 1) == 1 && !now.dogs.containsKey(i)) {
                return -1;
            }
        }
        if (what < 0 || what > 2) {
            return -1;
        }
        List<Integer> states = new ArrayList<>();
        int most = 0;
        while (!states.contains(dogs)) {
            states.add(dogs);
            most = Math.max(most, Integer.bitCount(dogs));
            int next = 0;
            for (int a : now.dogs.keySet()) {
                for (int b : now.dogs.keySet()) {
                    int far = far(now, b, a);
                    if ((dogs >> a & 1) == 0 && (dogs >> b & 1) == 1 && far >= 0 && far <= now.dogs.get(a)) {
                        next |= 1 << a;
                    }
                }
            }
            dogs = next;
        }
        boolean ends = states.contains(0);
        return what == 2 ? most : what == 1 ? ends ? 0 : states.size() - states.indexOf(dogs)
                : ends ? states.indexOf(0) : -2;
    }

    // ---- notes

    int note(int p, int m, boolean noisy) {
        if (!place(p) || !minute(m) || notes.size() == 24) {
            return -1;
        }
        notes.add(new int[] {p, m, noisy ? 1 : 0});
        return notes.size() - 1;
    }

    int strike(int n) {
        if (n < 0 || n >= notes.size() || notes.size() == 24) {
            return -1;
        }
        notes.add(new int[] {-1, n});
        return notes.size() - 1;
    }

    boolean known(int n) {
        if (n < -1 || n > notes.size()) {
            return false;
        }
        knownBy = n;
        return true;
    }

    boolean struck(int i, int many) {
        for (int j = i + 1; j < many; j++) {
            if (notes.get(j)[0] < 0 && notes.get(j)[1] == i && !struck(j, many)) {
                return true;
            }
        }
        return false;
    }

    List<int[]> thiefList() {
        List<int[]> found = new ArrayList<>();
        int many = knownBy < 0 ? notes.size() : knownBy;
        List<int[]> valid = new ArrayList<>();
        List<Boolean> base = new ArrayList<>();
        for (int i = 0; i < many; i++) {
            if (notes.get(i)[0] >= 0 && !struck(i, many)) {
                valid.add(notes.get(i));
                base.add(!silent(now, notes.get(i)[0], notes.get(i)[1]));
            }
        }
        for (int p = 0; p < now.places.size(); p++) {
            for (int m = 0; m < 48; m++) {
                for (int loud = 1; loud <= 20; loud++) {
                    Noise thief = new Noise(p, 0, m, m, loud);
                    boolean good = true;
                    for (int i = 0; i < valid.size() && good; i++) {
                        int[] n = valid.get(i);
                        good = (base.get(i) || hears(now, thief, n[0], n[1])) == (n[2] == 1);
                    }
                    if (good) {
                        found.add(new int[] {p, m, loud});
                    }
                }
            }
        }
        return found;
    }

    int thieves() {
        return thiefList().size();
    }

    int thief(int k, int what) {
        if (k < 0 || what < 0 || what > 2) {
            return -1;
        }
        List<int[]> all = thiefList();
        return k < all.size() ? all.get(k)[what] : -2;
    }

    // ---- heirs, waits, years, trials

    int left(int o, int law) {
        if (!own(o) || law < 0 || law > 2) {
            return -1;
        }
        World w = now.copy();
        w.claims.clear();
        int heir = now.heirs.get(o);
        for (Fact f : now.claims) {
            if (f.a != o) {
                w.claims.add(f);
            } else if (heir >= 0 && law == 0) {
                w.claims.add(new Fact(heir, f.b, f.c, f.d));
            } else if (heir >= 0 && law == 1) {
                int second = now.heirs.get(heir);
                int half = (f.d - f.c + 1) / 2;
                for (int m = f.c; m <= f.d; m++) {
                    int to = m - f.c < half || second < 0 || second == o ? heir : second;
                    w.claims.add(new Fact(to, f.b, m, m));
                }
            }
        }
        int best = 0;
        for (int p = 0; p < w.places.size(); p++) {
            int[] who = new int[48];
            for (int m = 0; m < 48; m++) {
                who[m] = whose(w, p, m);
            }
            for (int a = 0; a < 48; a++) {
                for (int b = a; b < 48 && who[a] >= 0 && who[b] == who[a]; b++) {
                    best = Math.max(best, b - a + 1);
                }
            }
        }
        return best;
    }

    static int gets(int prize, int cost, int mine, int theirs) {
        return (mine > theirs ? prize : mine == theirs ? prize / 2 : 0) - cost * (mine < theirs ? mine : theirs);
    }

    List<Integer> restList(int prize, int one, int other) {
        List<Integer> all = new ArrayList<>();
        for (int i = 0; i < 10; i++) {
            for (int j = 0; j < 10; j++) {
                boolean good = true;
                for (int k = 0; k < 10; k++) {
                    good &= gets(prize, one, k, j) <= gets(prize, one, i, j);
                    good &= gets(prize, other, k, i) <= gets(prize, other, j, i);
                }
                if (good) {
                    all.add(10 * i + j);
                }
            }
        }
        return all;
    }

    static boolean stakes(int... all) {
        for (int n : all) {
            if (n < 0 || n > 99) {
                return false;
            }
        }
        return true;
    }

    int rests(int prize, int one, int other) {
        return stakes(prize, one, other) ? restList(prize, one, other).size() : -1;
    }

    int rest(int prize, int one, int other, int k) {
        if (!stakes(prize, one, other) || k < 0) {
            return -1;
        }
        List<Integer> all = restList(prize, one, other);
        return k < all.size() ? all.get(k) : -2;
    }

    long number;

    int draw(int by) {
        number = (number * 1103515245L + 12345L) % (1L << 31);
        return (int) (number / 65536 % by);
    }

    int year(int seed, int n) {
        if (seed < 0 || n < 0 || n > 20) {
            return -1;
        }
        number = seed;
        int sum = 0;
        for (int day = 0; day < n; day++) {
            World w = now.copy();
            int kind = draw(3);
            if (kind == 0) {
                quieter(w);
            } else if (kind == 1 && !w.places.isEmpty() && !w.owners.isEmpty()) {
                int p = draw(w.places.size());
                int o = draw(w.owners.size());
                int m = draw(44);
                w.noises.add(new Noise(p, o, m, m + 3, 10));
            }
            sum += silents(w);
        }
        return sum;
    }

    static void quieter(World w) {
        for (Noise n : w.noises) {
            n.loud -= 5;
            n.stopped |= n.loud < 1;
        }
    }

    int tried(int what, int i) {
        World w = now.copy();
        int[] most = {1, w.noises.size(), w.owners.size(), 1, w.links.size(), w.places.size()};
        if (what < 0 || what > 5 || i < 0 || i >= most[what]) {
            return -1;
        }
        if (what == 0) {
            w.walls.replaceAll(x -> false);
        } else if (what == 1) {
            w.noises.remove(i);
        } else if (what == 2) {
            w.noises.removeIf(n -> n.owner == i);
        } else if (what == 3) {
            quieter(w);
        } else if (what == 4) {
            w.links.set(i, null);
        } else {
            w.noises.add(new Noise(i, 0, 0, 47, 8));
        }
        return silents(w);
    }

    // ---- undone, images, counts

    int undo() {
        if (before.isEmpty()) {
            return -1;
        }
        now = before.remove(before.size() - 1);
        return before.size();
    }

    int keep() {
        image = now.copy();
        return now.minute;
    }

    int back() {
        if (image == null) {
            return -1;
        }
        now = image.copy();
        before.clear();
        return now.minute;
    }

    int count(int what) {
        int sum = 0;
        switch (what) {
            case 0:
                return now.places.size();
            case 1:
                return now.links.size();
            case 2:
                return now.owners.size();
            case 3:
                return now.noises.size();
            case 4:
                return now.claims.size();
            case 5:
                return now.tasks.size();
            case 6:
                return now.dogs.size();
            case 7:
                return now.knots;
            case 8:
                return now.minute;
            case 9:
                return notes.size();
            case 10:
                return knownBy < 0 ? notes.size() : knownBy;
            case 11:
                return before.size();
            case 12:
                return (int) now.walls.stream().filter(x -> x).count();
            case 13:
                for (int o = 0; o < now.owners.size(); o++) {
                    sum += owner(o, 3);
                }
                return sum;
            case 14:
                for (int c : now.coins) {
                    sum += c;
                }
                return sum;
            case 15:
                return silents(now);
            default:
                return -1;
        }
    }
}
