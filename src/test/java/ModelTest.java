import java.util.NoSuchElementException;
import java.util.Random;

/** Long runs of calls, made by chance from set seeds, on the program and on the model: each answer must be alike. */
public final class ModelTest {
    private static final String[] NAMES = {"a", "b", "c", "abcdef", "x", "y", "z", "zz"};
    private static final String CALLS = "owner noise claim link far law heard hush whose spans span pieces piece share part "
            + "leaves make stop wall sell go plan planned walls bark note strike known thieves thief left rests rest year "
            + "tried undo keep back count named fault";

    private final Random chance;
    private final Told told;
    private OwnedSilence x = new OwnedSilence();
    private Model m = new Model();
    private final StringBuilder run = new StringBuilder();

    private ModelTest(int seed, Told told) {
        this.chance = new Random(seed);
        this.told = told;
    }

    private int upTo(int most) {
        return chance.nextInt(most + 1);
    }

    // ---- texts

    private String expression(int depth) {
        int kind = depth <= 0 ? upTo(1) : upTo(9);
        switch (kind) {
            case 0:
                return Integer.toString(chance.nextInt(10) == 0 ? upTo(9999) : upTo(20));
            case 1:
            case 2:
                return new String[] {"loud", "far", "minute", "long", "many", "who"}[upTo(5)];
            case 3:
                return "(" + expression(depth - 1) + ")";
            case 4:
                return "(not " + expression(depth - 1) + ")";
            default:
                String[] signs = {"+", "-", "*", "/", "<", "<=", "=", "<>", ">=", ">", " and ", " or ", "-", "-", "+", "*"};
                String sign = signs[upTo(signs.length - 1)];
                boolean bare = "+-*/".contains(sign) && chance.nextBoolean();
                String both = expression(depth - 1) + sign + expression(depth - 1);
                return bare || chance.nextInt(4) == 0 ? both : "(" + both + ")";
        }
    }

    private String fadeLaw() {
        switch (upTo(5)) {
            case 0:
                return "";
            case 1:
                return "law fade loud-far*2;";
            case 2:
                return "law fade loud-far-minute/" + upTo(6) + ";";
            case 3:
                return "law fade (minute/2*2=minute)*(loud-far);";
            default:
                return "law fade " + expression(3) + ";";
        }
    }

    private String worthLaw() {
        switch (upTo(4)) {
            case 0:
                return "";
            case 1:
                return "law worth long*many-who*minute;";
            case 2:
                return "law worth long*long/(many-1);";
            case 3:
                return "law worth 100-long+who*50;";
            default:
                return "law worth " + expression(3) + ";";
        }
    }

    private String valid() {
        StringBuilder s = new StringBuilder();
        int places = upTo(6);
        int owners = upTo(4);
        for (int i = 0; i < places; i++) {
            s.append("place ").append(NAMES[i]).append(';');
        }
        for (int i = 0; i < owners; i++) {
            s.append("owner ").append(NAMES[7 - i]).append(' ').append(upTo(chance.nextBoolean() ? 9 : 999)).append(';');
        }
        boolean[] linked = new boolean[36];
        for (int i = 0; i < 9 && places > 1; i++) {
            int a = upTo(places - 1);
            int b = upTo(places - 1);
            if (a != b && !linked[a * 6 + b]) {
                linked[a * 6 + b] = true;
                linked[b * 6 + a] = true;
                s.append("link ").append(NAMES[a]).append(' ').append(NAMES[b]).append(' ').append(1 + upTo(8)).append(';');
            }
        }
        for (int i = 0; i < owners && owners > 1; i++) {
            int b = upTo(owners - 1);
            if (b != i) {
                s.append("heir ").append(NAMES[7 - i]).append(' ').append(NAMES[7 - b]).append(';');
            }
        }
        if (places > 0 && owners > 0) {
            facts(s, places, owners);
        }
        for (int i = 0; i < places; i++) {
            if (chance.nextBoolean()) {
                s.append("dog ").append(NAMES[i]).append(' ').append(1 + upTo(11)).append(';');
            }
        }
        s.append(chance.nextBoolean() ? "wall " + (1 + upTo(8)) + ";" : "");
        s.append(chance.nextBoolean() ? "fine " + upTo(9) + ";" : "");
        s.append(chance.nextInt(4) == 0 ? "seed " + upTo(99999) + ";" : "");
        s.append(fadeLaw()).append(worthLaw());
        return s.toString();
    }

    private void facts(StringBuilder s, int places, int owners) {
        for (int i = upTo(4); i > 0; i--) {
            int from = upTo(47);
            s.append("noise ").append(NAMES[upTo(places - 1)]).append(' ').append(NAMES[7 - upTo(owners - 1)]).append(' ')
                    .append(from).append(' ').append(Math.min(47, from + upTo(12))).append(' ').append(1 + upTo(11)).append(';');
        }
        for (int i = upTo(5); i > 0; i--) {
            s.append("claim ");
            holding(s, places, owners);
        }
        for (int i = upTo(2); i > 0; i--) {
            s.append("right ");
            holding(s, places, owners);
        }
        for (int i = upTo(4); i > 0; i--) {
            s.append("task ").append(NAMES[7 - upTo(owners - 1)]).append(' ').append(NAMES[upTo(places - 1)]).append(' ')
                    .append(1 + upTo(11)).append(' ').append(1 + upTo(9)).append(';');
        }
    }

    private void holding(StringBuilder s, int places, int owners) {
        int from = upTo(47);
        s.append(NAMES[7 - upTo(owners - 1)]).append(' ').append(NAMES[upTo(places - 1)]).append(' ')
                .append(from).append(' ').append(Math.min(47, from + upTo(30))).append(';');
    }

    private static final String[] BITS = {";", " ", "\n", "(", ")", "<", ">", "=", "not ", "and ", " or ", "0", "1", "48",
        "10000", "place", "link", "owner", "heir", "noise", "claim", "right", "task", "dog", "wall", "fine", "seed",
        "law", "fade", "worth", "loud", "a", "b", "q", "abcdefg", "!", "\u00e9", "A", "\t", "place a;", "wall 3;",
        "law worth 1;", "dog a 3;", "link a b 3;", "+", "-", "*", "/"};

    private String mutated(String text) {
        StringBuilder s = new StringBuilder(text);
        for (int i = 1 + upTo(2); i > 0; i--) {
            int at = upTo(s.length());
            switch (upTo(4)) {
                case 0:
                    s.setLength(at);
                    break;
                case 1:
                    s.delete(at, Math.min(s.length(), at + 1 + upTo(3)));
                    break;
                case 2:
                    s.insert(at, BITS[upTo(BITS.length - 1)]);
                    break;
                case 3:
                    int cut = s.indexOf(";", at);
                    s.insert(cut + 1, BITS[upTo(BITS.length - 1)] + (chance.nextBoolean() ? ";" : ""));
                    break;
                default:
                    int again = s.indexOf(";", at) + 1;
                    int end = s.indexOf(";", again) + 1;
                    s.append(end > again ? s.substring(again, end) : " ");
                    break;
            }
        }
        return s.toString();
    }

    private void tell(String text) {
        String fits = text.length() > 700 ? text.substring(0, 700) : text;
        for (int at = 0; at < fits.length(); at += 20) {
            int[] n = new int[5];
            for (int i = 0; i < 20; i++) {
                int sign = at + i < fits.length() ? fits.charAt(at + i) : ' ';
                n[i / 4] = n[i / 4] << 8 | sign & 255;
            }
            alike("feed", x.feed(n[0], n[1], n[2], n[3], n[4]), m.feed(n[0], n[1], n[2], n[3], n[4]));
        }
        int n = chance.nextInt(20) == 0 ? upTo(720) - 5 : fits.length();
        run.append("text ").append(n).append(": ").append(fits).append('\n');
        alike("text", x.text(n), m.text(n));
        alike("fault 0", x.fault(0), m.fault(0));
        alike("fault 1", x.fault(1), m.fault(1));
    }

    // ---- calls

    private void alike(String call, long got, long want) {
        if (got != want) {
            System.out.println(run);
        }
        told.due(call, got, want);
    }

    private int near(int most) {
        return chance.nextInt(12) == 0 ? chance.nextBoolean() ? -1 : most + upTo(1) : most == 0 ? 0 : chance.nextInt(most);
    }

    private static long owner(OwnedSilence x, int o, int what) {
        try {
            return x.owner(o, what);
        } catch (IndexOutOfBoundsException e) {
            return 1000001;
        } catch (NoSuchElementException e) {
            return 1000002;
        }
    }

    private static long owner(Model m, int o, int what) {
        try {
            return m.owner(o, what);
        } catch (IndexOutOfBoundsException e) {
            return 1000001;
        } catch (NoSuchElementException e) {
            return 1000002;
        }
    }

    private void call() {
        String[] calls = CALLS.split(" ");
        String call = calls[upTo(calls.length - 1)];
        int p = near(m.now.places.size());
        int q = near(m.now.places.size());
        int o = near(m.now.owners.size());
        int a = near(48);
        int b = near(48);
        int n = near(m.now.noises.size());
        int l = near(m.now.links.size());
        int c = near(m.now.claims.size());
        int k = near(5);
        int w = near(6);
        boolean is = chance.nextBoolean();
        run.append(call).append(" p").append(p).append(" q").append(q).append(" o").append(o).append(" a").append(a).append(" b")
                .append(b).append(" n").append(n).append(" l").append(l).append(" c").append(c).append(" k").append(k)
                .append(" w").append(w).append(' ').append(is).append('\n');
        switch (call) {
            case "owner":
                alike(call, owner(x, o, w), owner(m, o, w));
                break;
            case "noise":
                alike(call, x.noise(n, w), m.noise(n, w));
                break;
            case "claim":
                alike(call, x.claim(c, w), m.claim(c, w));
                break;
            case "link":
                alike(call, x.link(l, w), m.link(l, w));
                break;
            case "far":
                alike(call, x.far(p, q), m.far(p, q));
                break;
            case "law":
                int big = near(10000);
                alike(call, x.law(w - 1, a, b, big), m.law(w - 1, a, b, big));
                alike(call, x.law(w / 3, big, a, b), m.law(w / 3, big, a, b));
                break;
            case "heard":
                alike(call, x.heard(p, a), m.heard(p, a));
                break;
            case "hush":
                alike(call, x.hush(p), m.hush(p));
                break;
            case "whose":
                alike(call, x.whose(p, a), m.whose(p, a));
                break;
            case "make":
                int loud = near(21);
                alike(call, x.make(p, o, Math.min(a, b), Math.max(a, b), loud), m.make(p, o, Math.min(a, b), Math.max(a, b), loud));
                alike(call, x.make(p, o, b, a, loud), m.make(p, o, b, a, loud));
                break;
            case "stop":
                alike(call, x.stop(n) ? 1 : 0, m.stop(n) ? 1 : 0);
                break;
            case "wall":
                alike(call, x.wall(l, is) ? 1 : 0, m.wall(l, is) ? 1 : 0);
                break;
            case "sell":
                int price = is ? near(10) : near(1000);
                alike(call, x.sell(c, o, price) ? 1 : 0, m.sell(c, o, price) ? 1 : 0);
                break;
            case "go":
                int by = chance.nextInt(8) == 0 ? near(49) : upTo(3);
                alike(call, x.go(by), m.go(by));
                break;
            case "walls":
                alike(call, x.walls(n, p), m.walls(n, p));
                break;
            case "bark":
                int dogs = is ? upTo(63) : mostDogs() & upTo(63);
                alike(call, x.bark(dogs, k), m.bark(dogs, k));
                alike(call, x.bark(-dogs, k), m.bark(-dogs, k));
                break;
            case "left":
                alike(call, x.left(o, k - 1), m.left(o, k - 1));
                break;
            case "undo":
                alike(call, x.undo(), m.undo());
                break;
            case "keep":
                alike(call, x.keep(), m.keep());
                break;
            case "back":
                alike(call, x.back(), m.back());
                break;
            case "named":
                int letters = Told.letters(NAMES[upTo(7)]);
                alike(call, x.named(k - 1, letters), m.named(k - 1, letters));
                break;
            case "fault":
                alike(call, x.fault(k - 1), m.fault(k - 1));
                break;
            case "count":
                int of = near(16);
                alike(call, x.count(of), m.count(of));
                break;
            default:
                otherCall(call, p, o, a, k, w, is);
                break;
        }
    }

    private int mostDogs() {
        int bits = 0;
        for (int place : m.now.dogs.keySet()) {
            bits |= 1 << place;
        }
        return bits;
    }

    private void otherCall(String call, int p, int o, int a, int k, int w, boolean is) {
        switch (call) {
            case "spans":
                alike(call, x.spans(), m.spans());
                break;
            case "span":
                int s = near(m.spans());
                alike(call, x.span(s, w), m.span(s, w));
                break;
            case "pieces":
                alike(call, x.pieces(), m.pieces());
                break;
            case "piece":
                int f = near(m.pieces());
                alike(call, x.piece(f, w), m.piece(f, w));
                break;
            case "share":
                f = near(m.pieces());
                alike(call, x.share(f, o), m.share(f, o));
                break;
            case "part":
                f = near(m.pieces());
                alike(call, x.part(f, o), m.part(f, o));
                break;
            case "leaves":
                f = near(m.pieces());
                alike(call, x.leaves(f), m.leaves(f));
                break;
            case "plan":
                alike(call, x.plan(), m.plan());
                break;
            case "planned":
                alike(call, x.planned(k, w / 2), m.planned(k, w / 2));
                break;
            case "note":
                boolean noisy = chance.nextInt(5) == 0 ? is : m.now.places.size() > p && p >= 0 && a >= 0 && a < 48
                        && !Model.silent(m.now, p, a);
                alike(call, x.note(p, a, noisy), m.note(p, a, noisy));
                break;
            case "strike":
                int n = near(m.notes.size());
                alike(call, x.strike(n), m.strike(n));
                break;
            case "known":
                n = is ? -1 : near(m.notes.size() + 1);
                alike(call, x.known(n) ? 1 : 0, m.known(n) ? 1 : 0);
                break;
            case "thieves":
                alike(call, x.thieves(), m.thieves());
                break;
            case "thief":
                int t = near(m.thieves());
                alike(call, x.thief(t, k - 1), m.thief(t, k - 1));
                break;
            case "rests":
                int prize = near(100);
                int cost = is ? near(12) : near(100);
                alike(call, x.rests(prize, cost, a), m.rests(prize, cost, a));
                break;
            case "rest":
                prize = near(100);
                cost = is ? near(12) : near(100);
                alike(call, x.rest(prize, cost, a % 10, k), m.rest(prize, cost, a % 10, k));
                break;
            case "year":
                int seed = is ? chance.nextInt() : upTo(9999);
                int days = near(21);
                alike(call, x.year(seed, days), m.year(seed, days));
                break;
            case "tried":
                int[] most = {1, m.now.noises.size(), m.now.owners.size(), 1, m.now.links.size(), m.now.places.size(), 1};
                int i = near(most[Math.max(0, Math.min(w, 6))]);
                alike(call, x.tried(w, i), m.tried(w, i));
                break;
            default:
                throw new IllegalStateException(call);
        }
    }

    /** All that can be asked without an end of its own. */
    private void sweep() {
        run.append("sweep\n");
        for (int i = -1; i <= 16; i++) {
            alike("count " + i, x.count(i), m.count(i));
        }
        for (int i = 0; i < 12; i++) {
            for (int what = 0; what < 6; what++) {
                alike("noise " + i + " " + what, x.noise(i, what), m.noise(i, what));
                alike("claim " + i + " " + what, x.claim(i, what), m.claim(i, what));
                alike("link " + i + " " + what, x.link(i, what), m.link(i, what));
            }
        }
        for (int o = 0; o < 4; o++) {
            for (int what = 0; what < 5; what++) {
                alike("owner " + o + " " + what, owner(x, o, what), owner(m, o, what));
            }
            for (int law = 0; law < 3; law++) {
                alike("left " + o + " " + law, x.left(o, law), m.left(o, law));
            }
        }
        for (int p = 0; p < 6; p++) {
            alike("hush " + p, x.hush(p), m.hush(p));
            for (int i = 0; i < 48; i++) {
                alike("whose " + p + " " + i, x.whose(p, i), m.whose(p, i));
            }
        }
        alike("plan", x.plan(), m.plan());
        alike("thieves", x.thieves(), m.thieves());
        int pieces = Math.min(4, m.pieces());
        for (int k = 0; k <= pieces; k++) {
            alike("leaves " + k, x.leaves(k), m.leaves(k));
            for (int what = 0; what < 6; what++) {
                alike("piece " + k + " " + what, x.piece(k, what), m.piece(k, what));
            }
            for (int o = 0; o < m.now.owners.size(); o++) {
                alike("part " + k + " " + o, x.part(k, o), m.part(k, o));
            }
        }
    }

    private void goOn(int calls) {
        for (int i = 0; i < calls; i++) {
            call();
        }
    }

    public static void main(String[] args) {
        int runs = args.length > 0 ? Integer.parseInt(args[0]) : 400;
        int from = args.length > 1 ? Integer.parseInt(args[1]) : 0;
        Told told = new Told();
        for (int seed = from; seed < from + runs; seed++) {
            ModelTest test = new ModelTest(seed, told);
            for (int text = 0; text < 3; text++) {
                String valid = test.valid();
                for (int i = 0; i < 6; i++) {
                    test.tell(test.mutated(valid));
                }
                test.tell(valid);
                test.goOn(120);
                test.sweep();
            }
        }
        told.end();
    }
}
