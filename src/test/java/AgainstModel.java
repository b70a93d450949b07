import java.util.ArrayList;
import java.util.HashSet;
import java.util.List;
import java.util.Random;
import java.util.Set;

/**
 * Long runs of calls, drawn by fixed seeds, on SlotMat and on a slow model that was written from the document
 * alone: trees for rules, whole copies for states, every order and every subset tried anew.
 */
public final class AgainstModel {
    private static int wrong = 0;

    public static void main(String[] args) {
        int runs = args.length > 0 ? Integer.parseInt(args[0]) : 300;
        int from = args.length > 1 ? Integer.parseInt(args[1]) : 0;
        for (int seed = from; seed < from + runs && wrong < 20; seed++) {
            oneRun(seed);
        }
        for (int seed = from; seed < from + 20 * runs && wrong < 20; seed++) {
            oneText(seed);
        }
        System.out.println(wrong == 0 ? "SlotMat and the model agree" : wrong + " answers differ");
        System.exit(wrong == 0 ? 0 : 1);
    }

    // ---- runs ----

    private static final int CALLS = 42;

    private static void oneRun(int seed) {
        Random random = new Random(seed);
        SlotMat real = new SlotMat();
        Model model = new Model();
        StringBuilder told = new StringBuilder();
        int calls = 0;
        if (random.nextInt(10) > 0) {
            calls += feedText(real, model, new Texts(random).city(), told, seed);
        }
        while (calls < 480) {
            int which = random.nextInt(CALLS + 12);
            if (which == 1 && random.nextInt(3) == 0) {
                Texts texts = new Texts(random);
                String text = texts.city();
                calls += feedText(real, model, random.nextInt(4) == 0 ? texts.spoiled(text) : text, told, seed);
                continue;
            }
            if (which >= CALLS) {
                which = 9 + random.nextInt(6);
            }
            if (which < 2) {
                continue;
            }
            int[] a = drawArguments(random, which, model);
            compare(real, model, which, a, told, seed);
            calls++;
        }
    }

    /** Mostly what the call may take, sometimes what it must refuse. */
    private static int[] drawArguments(Random random, int which, Model model) {
        int[] a = new int[5];
        for (int i = 0; i < a.length; i++) {
            int kind = random.nextInt(12);
            a[i] = kind == 0 ? random.nextInt() : kind == 1 ? random.nextInt(4) - 2 : random.nextInt(8);
        }
        boolean fits = random.nextInt(10) > 0;
        int box = model.boxes.isEmpty() ? 0 : random.nextInt(model.boxes.size());
        int person = model.people.isEmpty() ? 0 : random.nextInt(model.people.size());
        int other = model.people.isEmpty() ? 0 : random.nextInt(model.people.size() + 1) - 1;
        if (!fits) {
            return a;
        }
        switch (which) {
            case 5: a[0] = random.nextInt(16); break;
            case 6: a[0] = box; a[1] = random.nextInt(5); break;
            case 7: a[0] = person; a[1] = random.nextInt(8); break;
            case 8: a[0] = box; a[1] = person; break;
            case 9: a[0] = 1 + random.nextInt(random.nextInt(3) == 0 ? 20 : 5); break;
            case 10: case 17: case 20: case 21: a[0] = person; break;
            case 11: case 39: a[0] = box; break;
            case 12: case 34: a[0] = person; a[1] = other; break;
            case 15: a[0] = box; a[1] = random.nextInt(41); a[2] = random.nextInt(2); break;
            case 16: a[0] = person; a[1] = random.nextInt(41); a[2] = random.nextInt(2); break;
            case 18: a[0] = box; a[1] = 1 + random.nextInt(random.nextInt(4) == 0 ? 792 : 90); break;
            case 19: a[0] = random.nextInt(41); a[1] = random.nextInt(5); break;
            case 22: a[0] = random.nextInt(31); break;
            case 23: case 28: a[0] = random.nextInt(2); break;
            case 24: a[0] = random.nextInt(model.boxes.size() + 1) - 1; break;
            case 25:
                a[0] = person;
                a[1] = random.nextInt(21);
                // Mostly what will be so, that something be left to be thought.
                a[2] = model.people.isEmpty() || random.nextInt(6) == 0
                    ? random.nextInt(40) : model.ahead(a[1]).heard[person];
                break;
            case 27: a[0] = random.nextInt(3); break;
            case 29:
                a[0] = person;
                a[1] = (model.people.isEmpty() ? 0 : model.now.heard[person]) + random.nextInt(30);
                a[2] = 1 + random.nextInt(5);
                a[3] = random.nextInt(11);
                break;
            case 30: a[0] = person; a[1] = Math.max(0, other); a[2] = random.nextInt(2); break;
            case 31: a[0] = random.nextInt(); a[1] = random.nextInt(41); a[2] = random.nextInt(3); break;
            case 32: a[0] = box; a[1] = random.nextInt(100); break;
            case 33: a[0] = box; a[1] = 1 + random.nextInt(60); break;
            case 35: case 37: a[0] = person; a[1] = 1 + random.nextInt(40); break;
            case 38: a[0] = random.nextInt(41); break;
            default: break;
        }
        return a;
    }

    private static void compare(SlotMat real, Model model, int which, int[] a, StringBuilder told, int seed) {
        String got;
        try {
            got = callReal(real, which, a);
        } catch (RuntimeException e) {
            got = e.getClass().getSimpleName();
        }
        String due;
        try {
            due = model.call(which, a);
        } catch (Refusal e) {
            due = e.name;
        }
        told.append("  call ").append(which).append(' ').append(java.util.Arrays.toString(a))
            .append(" = ").append(got).append('\n');
        if (!got.equals(due)) {
            wrong++;
            System.out.println("seed " + seed + ": promise " + which + " with " + java.util.Arrays.toString(a)
                + " answered " + got + ", the model says " + due);
            if (wrong == 1) {
                String all = told.toString();
                System.out.println(all.substring(Math.max(0, all.length() - 3000)));
            }
        }
    }

    private static String callReal(SlotMat x, int which, int[] a) {
        switch (which) {
            case 2: return "" + x.feed(a[0], a[1], a[2], a[3], a[4]);
            case 3: return "" + x.city(a[0]);
            case 4: return "" + x.fault();
            case 5: return "" + x.count(a[0]);
            case 6: return "" + x.box(a[0], a[1]);
            case 7: return "" + x.person(a[0], a[1]);
            case 8: return "" + x.held(a[0], a[1]);
            case 9: return "" + x.days(a[0]);
            case 10: return "" + x.write(a[0]);
            case 11: return "" + x.paint(a[0]);
            case 12: return "" + x.turn(a[0], a[1]);
            case 13: return "" + x.strike((a[0] & 1) == 1);
            case 14: return "" + x.undo();
            case 15: return "" + x.then(a[0], a[1], a[2]);
            case 16: return "" + x.later(a[0], a[1], a[2]);
            case 17: return "" + x.first(a[0]);
            case 18: return "" + x.full(a[0], a[1]);
            case 19: return "" + x.most(a[0], a[1]);
            case 20: return "" + x.ring(a[0]);
            case 21: return "" + x.comesTo(a[0]);
            case 22: return "" + x.toCover(a[0]);
            case 23: return "" + x.oneMore(a[0]);
            case 24: return "" + x.order(a[0]);
            case 25: return "" + x.note(a[0], a[1], a[2]);
            case 26: x.forget(); return "";
            case 27: return "" + x.thought(a[0]);
            case 28: return "" + x.ask(a[0]);
            case 29: return "" + x.wetNights(a[0], a[1], a[2], a[3]);
            case 30: return "" + x.game(a[0], a[1], a[2]);
            case 31: return "" + x.years(a[0], a[1], a[2]);
            case 32: return "" + x.pale(a[0], a[1]);
            case 33: return "" + x.visits(a[0], a[1]);
            case 34: return "" + x.steps(a[0], a[1]);
            case 35: return "" + x.quiet(a[0], a[1]);
            case 36: return "" + x.middle();
            case 37: return "" + x.bestAt(a[0], a[1]);
            case 38: return "" + x.reds(a[0]);
            case 39: return "" + x.whose(a[0]);
            case 40: x.image(); return "";
            default: return "" + x.restore();
        }
    }

    private static int feedText(SlotMat real, Model model, String text, StringBuilder told, int seed) {
        int calls = 0;
        for (int i = 0; i < text.length(); i += 20) {
            int[] a = new int[5];
            for (int k = 0; k < 20; k++) {
                int sign = i + k < text.length() ? text.charAt(i + k) : ' ';
                a[k / 4] = a[k / 4] << 8 | sign;
            }
            compare(real, model, 2, a, told, seed);
            calls++;
        }
        told.append("  text ").append(text).append('\n');
        compare(real, model, 3, new int[] {text.length(), 0, 0, 0, 0}, told, seed);
        compare(real, model, 4, new int[5], told, seed);
        return calls + 2;
    }

    /** A text alone, mostly spoiled, and what it told. */
    private static void oneText(int seed) {
        Random random = new Random(seed * 77L + 5);
        Texts texts = new Texts(random);
        String text = texts.city();
        for (int i = random.nextInt(4); i > 0; i--) {
            text = texts.spoiled(text);
        }
        SlotMat real = new SlotMat();
        Model model = new Model();
        StringBuilder told = new StringBuilder();
        feedText(real, model, text, told, seed);
        for (int what = 0; what < 16; what++) {
            compare(real, model, 5, new int[] {what, 0, 0, 0, 0}, told, seed);
        }
        for (int days = 0; days < 20; days += 4) {
            compare(real, model, 9, new int[] {1 + days, 0, 0, 0, 0}, told, seed);
            for (int what = 6; what < 8; what++) {
                compare(real, model, 5, new int[] {what, 0, 0, 0, 0}, told, seed);
            }
            compare(real, model, 38, new int[] {days, 0, 0, 0, 0}, told, seed);
        }
    }

    // ---- texts ----

    private static final class Texts {
        private final Random random;
        private int boxes;
        private int people;

        Texts(Random random) {
            this.random = random;
        }

        String city() {
            String text = lines();
            return text.length() > 700 ? text.substring(0, 700) : text;
        }

        private String lines() {
            StringBuilder text = new StringBuilder();
            boxes = random.nextInt(7);
            people = random.nextInt(9);
            int telling = 0;
            List<String> lines = new ArrayList<>();
            for (int i = 0; i < boxes; i++) {
                lines.add("box " + random.nextInt(31) + " " + random.nextInt(random.nextBoolean() ? 100 : 8));
            }
            for (int i = 0; i < people; i++) {
                int at = random.nextInt(random.nextInt(6) == 0 ? 8 : people);
                String line = "person " + random.nextInt(31) + " " + random.nextInt(10);
                lines.add(telling++ >= 0 && at != i && random.nextInt(6) > 0 ? line + " at " + at : line);
            }
            if (boxes > 0 && random.nextInt(2) == 0) {
                StringBuilder round = new StringBuilder("round");
                for (int i = 1 + random.nextInt(8); i > 0; i--) {
                    round.append(' ').append(random.nextInt(boxes));
                }
                lines.add(round.toString());
            }
            if (random.nextInt(2) == 0) {
                StringBuilder wet = new StringBuilder("wet");
                for (int i = 1 + random.nextInt(8); i > 0; i--) {
                    wet.append(' ').append(random.nextInt(10));
                }
                lines.add(wet.toString());
            }
            if (random.nextInt(2) == 0) {
                lines.add("thinks " + expr(3, new String[] {"pensive", "regret", "heard", "red", "held", "day"}));
            }
            if (random.nextInt(2) == 0) {
                lines.add("sounds " + expr(3, new String[] {"much", "far", "heard", "wet", "day"}));
            }
            for (String line : lines) {
                text.append(line).append(random.nextInt(5) == 0 ? " ;\n" : ";");
            }
            return text.toString();
        }

        private String expr(int depth, String[] values) {
            String text = and(depth, values);
            for (int i = random.nextInt(4); i > 2; i--) {
                text += " or " + and(depth, values);
            }
            return text;
        }

        private String and(int depth, String[] values) {
            String text = not(depth, values);
            for (int i = random.nextInt(4); i > 2; i--) {
                text += " and " + not(depth, values);
            }
            return text;
        }

        private String not(int depth, String[] values) {
            String nots = "";
            while (random.nextInt(7) == 0) {
                nots += "not ";
            }
            String text = nots + sum(depth, values);
            return random.nextInt(4) == 0 ? text + (random.nextBoolean() ? "<" : "=") + sum(depth, values) : text;
        }

        private String sum(int depth, String[] values) {
            String text = product(depth, values);
            for (int i = random.nextInt(4); i > 1; i--) {
                text += (random.nextBoolean() ? "+" : " - ") + product(depth, values);
            }
            return text;
        }

        private String product(int depth, String[] values) {
            String text = part(depth, values);
            for (int i = random.nextInt(4); i > 1; i--) {
                text += (random.nextBoolean() ? "*" : "/") + part(depth, values);
            }
            return text;
        }

        private String part(int depth, String[] values) {
            int kind = random.nextInt(6);
            if (kind < 3) {
                return values[random.nextInt(values.length)];
            }
            if (kind == 3 && depth > 0) {
                return "(" + expr(depth - 1, values) + ")";
            }
            return "" + random.nextInt(random.nextInt(5) == 0 ? 10000 : 9);
        }

        private static final String[] PIECES = {
            "box", "person", "at", "round", "wet", "thinks", "sounds", "not", "and", "or", "pensive", "much", "day",
            "heard", "x", "notnot", "0", "1", "5", "6", "7", "8", "9", "10", "30", "31", "99", "100", "0007", "00007",
            "12345", "9999", ";", "(", ")", "+", "-", "*", "/", "<", "=", "\t", "B", "?", "not not not not",
            "((((((", "(((((", "))", ";;", "thinks 1;", "sounds 2;", "wet 3;", "round 0;", "box 1 1;", "person 2 2;"
        };

        /** One piece is put in, taken out, or comes in another one's place. */
        String spoiled(String text) {
            int at = text.isEmpty() ? 0 : random.nextInt(text.length() + 1);
            String piece = PIECES[random.nextInt(PIECES.length)];
            int to = Math.min(text.length(), at + random.nextInt(4));
            String glue = random.nextBoolean() ? " " : "";
            String made;
            switch (random.nextInt(4)) {
                case 0: made = text.substring(0, at) + text.substring(to); break;
                case 1: made = text.substring(0, at) + glue + piece + glue + text.substring(to); break;
                case 2: made = text.substring(0, at); break;
                default: made = text.substring(0, at) + glue + piece + glue + text.substring(at); break;
            }
            return made.length() > 700 ? made.substring(0, 700) : made;
        }
    }

    // ---- the model ----

    private static final class Refusal extends Exception {
        private static final long serialVersionUID = 1L;
        private final String name;

        Refusal(String name) {
            super(name);
            this.name = name;
        }
    }

    private static Refusal noSuch() {
        return new Refusal("NoSuchElementException");
    }

    private static Refusal illegal() {
        return new Refusal("IllegalArgumentException");
    }

    /** A place in a text where it is no city. */
    private static final class Fault extends Exception {
        private static final long serialVersionUID = 1L;
        private final int code;
        private final int place;

        Fault(int code, int place) {
            super("fault");
            this.code = code;
            this.place = place;
        }
    }

    private static final class Token {
        private final String text;
        private final int place;

        Token(String text, int place) {
            this.text = text;
            this.place = place;
        }

        boolean isWord() {
            return text.matches("[a-z]+");
        }

        boolean isNumber() {
            return text.matches("[0-9]+");
        }

        int value() throws Fault {
            if (text.length() > 4) {
                throw new Fault(2, place);
            }
            return Integer.parseInt(text);
        }
    }

    private interface Tree {
        int worth(java.util.Map<String, Integer> values);
    }

    private static final class Parser {
        private final List<Token> tokens = new ArrayList<>();
        private int next = 0;
        private final List<int[]> boxes = new ArrayList<>();
        private final List<int[]> people = new ArrayList<>();
        private List<Integer> round = null;
        private List<Integer> wet = null;
        private Tree thinks = null;
        private Tree sounds = null;
        private Set<String> values = null;

        Parser(String text) {
            int i = 0;
            while (i < text.length()) {
                int from = i;
                char sign = text.charAt(i++);
                if (sign == ' ' || sign == '\n') {
                    continue;
                }
                String same = sign >= 'a' && sign <= 'z' ? "[a-z]" : sign >= '0' && sign <= '9' ? "[0-9]" : "";
                while (i < text.length() && ("" + text.charAt(i)).matches(same)) {
                    i++;
                }
                tokens.add(new Token(text.substring(from, i), from));
            }
            tokens.add(new Token("", text.length()));
        }

        private Token look() {
            return tokens.get(next);
        }

        private boolean at(String text) {
            return look().text.equals(text);
        }

        private Fault cant(int code) {
            return new Fault(code, look().place);
        }

        void parse() throws Fault {
            while (!at("")) {
                line();
                if (!at(";")) {
                    throw cant(1);
                }
                next++;
            }
        }

        private void line() throws Fault {
            String word = look().text;
            switch (word) {
                case "box":
                    if (boxes.size() == 6) {
                        throw cant(2);
                    }
                    next++;
                    boxes.add(new int[] {number(30), number(99)});
                    break;
                case "person":
                    person();
                    break;
                case "round":
                    if (round != null) {
                        throw cant(5);
                    }
                    next++;
                    round = row(9999, boxes.size());
                    break;
                case "wet":
                    if (wet != null) {
                        throw cant(5);
                    }
                    next++;
                    wet = row(9, 10000);
                    break;
                case "thinks":
                    if (thinks != null) {
                        throw cant(5);
                    }
                    next++;
                    values = Set.of("pensive", "regret", "heard", "red", "held", "day");
                    thinks = expr(0);
                    break;
                case "sounds":
                    if (sounds != null) {
                        throw cant(5);
                    }
                    next++;
                    values = Set.of("much", "far", "heard", "wet", "day");
                    sounds = expr(0);
                    break;
                default:
                    throw cant(1);
            }
        }

        private void person() throws Fault {
            if (people.size() == 8) {
                throw cant(2);
            }
            next++;
            int[] one = {number(30), number(9), -1};
            if (at("at")) {
                next++;
                if (look().isNumber() && look().value() == people.size()) {
                    throw cant(4);
                }
                one[2] = number(7);
            }
            people.add(one);
        }

        private int number(int most) throws Fault {
            if (!look().isNumber()) {
                throw cant(1);
            }
            if (look().value() > most) {
                throw cant(2);
            }
            return tokens.get(next++).value();
        }

        private List<Integer> row(int most, int told) throws Fault {
            List<Integer> row = new ArrayList<>();
            do {
                if (row.size() == 8 && look().isNumber()) {
                    throw cant(2);
                }
                int place = look().place;
                int number = number(most);
                if (number >= told) {
                    throw new Fault(3, place);
                }
                row.add(number);
            } while (look().isNumber());
            return row;
        }

        private Tree expr(int within) throws Fault {
            if (within == 6 && (look().isNumber() || look().isWord() || at("("))) {
                throw cant(2);
            }
            Tree left = and(within);
            while (at("or")) {
                next++;
                Tree a = left;
                Tree b = and(within);
                left = v -> a.worth(v) != 0 | b.worth(v) != 0 ? 1 : 0;
            }
            return left;
        }

        private Tree and(int within) throws Fault {
            Tree left = not(within, 0);
            while (at("and")) {
                next++;
                Tree a = left;
                Tree b = not(within, 0);
                left = v -> a.worth(v) != 0 & b.worth(v) != 0 ? 1 : 0;
            }
            return left;
        }

        private Tree not(int within, int nots) throws Fault {
            if (at("not")) {
                if (nots == 6) {
                    throw cant(2);
                }
                next++;
                Tree a = not(within, nots + 1);
                return v -> a.worth(v) == 0 ? 1 : 0;
            }
            Tree a = sum(within);
            if (at("<")) {
                next++;
                Tree b = sum(within);
                return v -> a.worth(v) < b.worth(v) ? 1 : 0;
            }
            if (at("=")) {
                next++;
                Tree b = sum(within);
                return v -> a.worth(v) == b.worth(v) ? 1 : 0;
            }
            return a;
        }

        private Tree sum(int within) throws Fault {
            Tree left = product(within);
            while (at("+") || at("-")) {
                boolean plus = at("+");
                next++;
                Tree a = left;
                Tree b = product(within);
                left = plus ? v -> a.worth(v) + b.worth(v) : v -> a.worth(v) - b.worth(v);
            }
            return left;
        }

        private Tree product(int within) throws Fault {
            Tree left = part(within);
            while (at("*") || at("/")) {
                boolean times = at("*");
                next++;
                Tree a = left;
                Tree b = part(within);
                left = times ? v -> a.worth(v) * b.worth(v) : v -> b.worth(v) == 0 ? 0 : a.worth(v) / b.worth(v);
            }
            return left;
        }

        private Tree part(int within) throws Fault {
            Token token = look();
            if (token.isNumber()) {
                int number = token.value();
                next++;
                return v -> number;
            }
            if (token.isWord()) {
                if (!values.contains(token.text)) {
                    throw cant(3);
                }
                next++;
                return v -> v.get(token.text);
            }
            if (!at("(")) {
                throw cant(1);
            }
            next++;
            Tree inner = expr(within + 1);
            if (!at(")")) {
                throw cant(1);
            }
            next++;
            return inner;
        }
    }

    private static final class Situation {
        private int day = 0;
        private boolean strike = false;
        private int[][] held = new int[6][8];
        private int[] red = new int[6];
        private int[] regret = new int[8];
        private int[] heard = new int[8];
        private int[] at = new int[8];

        Situation copy() {
            Situation other = new Situation();
            other.day = day;
            other.strike = strike;
            for (int i = 0; i < 6; i++) {
                other.held[i] = held[i].clone();
            }
            other.red = red.clone();
            other.regret = regret.clone();
            other.heard = heard.clone();
            other.at = at.clone();
            return other;
        }

        int in(int box) {
            return total(held[box]);
        }

        int all() {
            int sum = 0;
            for (int[] row : held) {
                sum += total(row);
            }
            return sum;
        }
    }

    private static int total(int[] row) {
        int sum = 0;
        for (int one : row) {
            sum += one;
        }
        return sum;
    }

    private static final class Model {
        private String tape = "";
        private int faultPlace = -1;
        private final int[] status = new int[3];
        private List<int[]> boxes = new ArrayList<>();
        private List<int[]> people = new ArrayList<>();
        private List<Integer> round = new ArrayList<>();
        private List<Integer> wet = new ArrayList<>(List.of(2));
        private Tree thinks = null;
        private Tree sounds = null;
        private Situation now = new Situation();
        private List<Situation> acts = new ArrayList<>();
        private List<int[]> noted = new ArrayList<>();
        private Situation imageNow = null;
        private List<Situation> imageActs = null;
        private List<int[]> imageNoted = null;
        private int seed = 0;

        String call(int which, int[] a) throws Refusal {
            switch (which) {
                case 2: return "" + feed(a);
                case 3: return "" + city(a[0]);
                case 4: return "" + faultPlace;
                case 5: return "" + count(a[0]);
                case 6: return "" + box(a[0], a[1]);
                case 7: return "" + person(a[0], a[1]);
                case 8: needBox(a[0]); needPerson(a[1]); return "" + now.held[a[0]][a[1]];
                case 9: return "" + days(a[0]);
                case 10: return "" + write(a[0]);
                case 11: return "" + paint(a[0]);
                case 12: return "" + turn(a[0], a[1]);
                case 13: return "" + strike((a[0] & 1) == 1);
                case 14: return "" + undo();
                case 15:
                    needBox(a[0]); needWhat(a[2], 2); need(a[1], 0, 40);
                    return "" + (a[2] == 0 ? ahead(a[1]).in(a[0]) : ahead(a[1]).red[a[0]]);
                case 16:
                    needPerson(a[0]); needWhat(a[2], 2); need(a[1], 0, 40);
                    return "" + (a[2] == 0 ? ahead(a[1]).regret[a[0]] : ahead(a[1]).heard[a[0]]);
                case 17: return "" + first(a[0]);
                case 18: return "" + full(a[0], a[1]);
                case 19: return "" + most(a[0], a[1]);
                case 20: return "" + ring(a[0]);
                case 21: return "" + comesTo(a[0]);
                case 22: return "" + toCover(a[0]);
                case 23: return "" + oneMore(a[0]);
                case 24: return "" + order(a[0]);
                case 25: return "" + note(a[0], a[1], a[2]);
                case 26: noted = new ArrayList<>(); return "";
                case 27: return "" + thought(a[0]);
                case 28: return "" + ask(a[0]);
                case 29: return "" + wetNights(a[0], a[1], a[2], a[3]);
                case 30: return "" + game(a[0], a[1], a[2]);
                case 31: return "" + years(a[0], a[1], a[2]);
                case 32: return "" + pale(a[0], a[1]);
                case 33: return "" + visits(a[0], a[1]);
                case 34: return "" + steps(a[0], a[1]);
                case 35: return "" + quiet(a[0], a[1]);
                case 36: return "" + middle();
                case 37: return "" + bestAt(a[0], a[1]);
                case 38: need(a[0], 0, 40); return "" + total(ahead(a[0]).red);
                case 39: return "" + whose(a[0]);
                case 40:
                    imageNow = now.copy();
                    imageActs = new ArrayList<>(acts);
                    imageNoted = new ArrayList<>(noted);
                    return "";
                default:
                    if (imageNow == null) {
                        return "false";
                    }
                    now = imageNow.copy();
                    acts = new ArrayList<>(imageActs);
                    noted = new ArrayList<>(imageNoted);
                    return "true";
            }
        }

        private void needBox(int box) throws Refusal {
            if (box < 0 || box >= boxes.size()) {
                throw noSuch();
            }
        }

        private void needPerson(int person) throws Refusal {
            if (person < 0 || person >= people.size()) {
                throw noSuch();
            }
        }

        private void needWhat(int what, int many) throws Refusal {
            if (what < 0 || what >= many) {
                throw noSuch();
            }
        }

        private void need(int value, int least, int most) throws Refusal {
            if (value < least || value > most) {
                throw illegal();
            }
        }

        private int feed(int[] a) {
            if (tape.length() + 20 > 700) {
                return -1;
            }
            for (int k = 0; k < 20; k++) {
                tape += (char) (a[k / 4] >>> 24 - 8 * (k % 4) & 255);
            }
            return tape.length();
        }

        private int city(int n) throws Refusal {
            need(n, 0, tape.length());
            Parser parser = new Parser(tape.substring(0, n));
            tape = "";
            try {
                parser.parse();
            } catch (Fault e) {
                faultPlace = e.place;
                status[0]++;
                return e.code;
            }
            faultPlace = -1;
            boxes = parser.boxes;
            people = parser.people;
            round = parser.round;
            if (round == null) {
                round = new ArrayList<>();
                for (int i = 0; i < boxes.size(); i++) {
                    round.add(i);
                }
            }
            wet = parser.wet == null ? List.of(2) : parser.wet;
            thinks = parser.thinks;
            sounds = parser.sounds;
            now = new Situation();
            for (int i = 0; i < boxes.size(); i++) {
                now.red[i] = boxes.get(i)[1];
            }
            for (int i = 0; i < people.size(); i++) {
                now.at[i] = people.get(i)[2] < people.size() ? people.get(i)[2] : -1;
            }
            acts = new ArrayList<>();
            noted = new ArrayList<>();
            imageNow = null;
            return 0;
        }

        private int way(int box, int person) {
            return Math.abs(boxes.get(box)[0] - people.get(person)[0]);
        }

        private int nearest(int person) {
            int best = -1;
            for (int box = boxes.size() - 1; box >= 0; box--) {
                if (best == -1 || way(box, person) <= way(best, person)) {
                    best = box;
                }
            }
            return best;
        }

        private int boxOn(int day) {
            return round.isEmpty() ? -1 : round.get(day % round.size());
        }

        private int wetOn(int day) {
            return wet.get(day % wet.size());
        }

        private int count(int what) throws Refusal {
            switch (what) {
                case 0: return boxes.size();
                case 1: return people.size();
                case 2: return now.day;
                case 3: return wetOn(now.day);
                case 4: return now.strike ? 1 : 0;
                case 5: return boxOn(now.day);
                case 6: return now.all();
                case 7: return total(now.heard);
                case 8: {
                    int twice = 0;
                    for (int i = 0; i < people.size(); i++) {
                        for (int k = 0; k < people.size(); k++) {
                            twice += now.at[i] == k && now.at[k] == i ? 1 : 0;
                        }
                    }
                    return twice / 2;
                }
                case 9: {
                    int bits = (1 << people.size()) - 1;
                    for (int i = 0; i < people.size(); i++) {
                        bits &= now.at[i] < 0 ? -1 : ~(1 << now.at[i]);
                    }
                    return bits;
                }
                case 10: return acts.size();
                case 11: return noted.size();
                case 12: return tape.length();
                case 13: case 14: case 15: return status[what - 13];
                default: throw noSuch();
            }
        }

        private int box(int box, int what) throws Refusal {
            needBox(box);
            needWhat(what, 5);
            int bits = 0;
            int farthest = -1;
            for (int i = people.size() - 1; i >= 0; i--) {
                if (nearest(i) == box) {
                    bits |= 1 << i;
                    farthest = farthest < 0 || way(box, i) >= way(box, farthest) ? i : farthest;
                }
            }
            return new int[] {boxes.get(box)[0], now.red[box], now.in(box), bits, farthest}[what];
        }

        private int person(int person, int what) throws Refusal {
            needPerson(person);
            needWhat(what, 8);
            int fans = 0;
            int neighbours = 0;
            for (int i = 0; i < people.size(); i++) {
                fans |= now.at[i] == person ? 1 << i : 0;
                neighbours |= i != person && !boxes.isEmpty() && nearest(i) == nearest(person) ? 1 << i : 0;
            }
            return new int[] {people.get(person)[0], people.get(person)[1], now.at[person], now.regret[person],
                now.heard[person], nearest(person), fans, neighbours}[what];
        }

        private int clamp(int value, int most) {
            return value < 0 ? 0 : Math.min(value, most);
        }

        private int pass(Situation s) {
            return pass(s, wetOn(s.day), boxOn(s.day));
        }

        private int pass(Situation s, int wetness, int visited) {
            for (int i = 0; i < people.size() && !boxes.isEmpty(); i++) {
                int box = nearest(i);
                int more = people.get(i)[1];
                if (thinks != null) {
                    more = clamp(thinks.worth(java.util.Map.of("pensive", more, "regret", s.regret[i], "heard",
                        s.heard[i], "red", s.red[box], "held", s.in(box), "day", s.day)), 9);
                }
                s.held[box][i] = Math.min(99, s.held[box][i] + more);
                s.regret[i] = Math.min(999, s.regret[i] + more);
            }
            int fetched = 0;
            for (int i = 0; i < people.size() && !s.strike && visited >= 0; i++) {
                int much = s.held[visited][i];
                if (much == 0) {
                    continue;
                }
                int to = s.at[i];
                if (to >= 0) {
                    int far = way(visited, to);
                    int sound = much / 2 + wetness - far / 3;
                    if (sounds != null) {
                        sound = sounds.worth(java.util.Map.of("much", much, "far", far, "heard", s.heard[to],
                            "wet", wetness, "day", s.day));
                    }
                    s.heard[to] = Math.min(9999, s.heard[to] + clamp(sound, 99));
                }
                s.regret[i] = Math.max(0, s.regret[i] - much);
                s.held[visited][i] = 0;
                fetched += much;
            }
            for (int box = 0; box < boxes.size(); box++) {
                s.red[box] = s.in(box) > 0 ? Math.max(0, s.red[box] - 1) : s.red[box];
            }
            s.day++;
            return fetched;
        }

        private void writes(Situation s, int person) {
            int all = 9;
            for (int box = 0; box < 6; box++) {
                all += s.held[box][person];
                s.held[box][person] = 0;
            }
            s.heard[s.at[person]] = Math.min(9999, s.heard[s.at[person]] + all);
            s.regret[person] = 0;
        }

        private void keep() {
            acts.add(now.copy());
            if (acts.size() > 40) {
                acts.remove(0);
            }
        }

        private int days(int many) {
            if (many < 1 || many > 20 || now.day + many > 999) {
                status[1]++;
                return -1;
            }
            keep();
            now = ahead(many);
            return now.day;
        }

        private int write(int person) throws Refusal {
            needPerson(person);
            if (now.at[person] < 0) {
                status[1]++;
                return -1;
            }
            keep();
            writes(now, person);
            return now.heard[now.at[person]];
        }

        private int paint(int box) throws Refusal {
            needBox(box);
            if (now.red[box] == 99) {
                status[1]++;
                return -1;
            }
            keep();
            int red = now.red[box];
            now.red[box] = 99;
            return red;
        }

        private int turn(int person, int other) throws Refusal {
            needPerson(person);
            if (other != -1) {
                needPerson(other);
            }
            if (person == other || now.at[person] == other) {
                status[1]++;
                return -2;
            }
            keep();
            int at = now.at[person];
            now.at[person] = other;
            return at;
        }

        private boolean strike(boolean is) {
            if (now.strike == is) {
                status[1]++;
                return false;
            }
            keep();
            now.strike = is;
            return true;
        }

        private int undo() {
            if (acts.isEmpty()) {
                return -1;
            }
            now = acts.remove(acts.size() - 1).copy();
            return acts.size();
        }

        private Situation ahead(int days) {
            Situation s = now.copy();
            for (int i = 0; i < days; i++) {
                pass(s);
            }
            return s;
        }

        private int first(int person) throws Refusal {
            needPerson(person);
            for (int days = 1; days <= 40; days++) {
                if (ahead(days).heard[person] > now.heard[person]) {
                    return days;
                }
            }
            return -1;
        }

        private int full(int box, int many) throws Refusal {
            needBox(box);
            need(many, 1, 792);
            for (int days = 0; days <= 40; days++) {
                if (ahead(days).in(box) >= many) {
                    return days;
                }
            }
            return -1;
        }

        private int most(int days, int what) throws Refusal {
            needWhat(what, 5);
            need(days, 0, 40);
            Situation s = now.copy();
            int fetched = 0;
            for (int i = 0; i < days; i++) {
                fetched += pass(s);
            }
            int fullest = -1;
            int empty = 0;
            for (int box = boxes.size() - 1; box >= 0; box--) {
                fullest = fullest < 0 || s.in(box) >= s.in(fullest) ? box : fullest;
                empty |= s.in(box) == 0 ? 1 << box : 0;
            }
            int loudest = -1;
            int saddest = -1;
            for (int i = people.size() - 1; i >= 0; i--) {
                loudest = loudest < 0 || s.heard[i] >= s.heard[loudest] ? i : loudest;
                saddest = saddest < 0 || s.regret[i] >= s.regret[saddest] ? i : saddest;
            }
            return new int[] {fullest, loudest, fetched, saddest, empty}[what];
        }

        private int comesTo(int person) throws Refusal {
            needPerson(person);
            Set<Integer> reached = new HashSet<>();
            int bits = 0;
            for (int i = now.at[person]; i >= 0 && reached.add(i); i = now.at[i]) {
                bits |= 1 << i;
            }
            return bits;
        }

        private int ring(int person) throws Refusal {
            needPerson(person);
            int bits = 1 << person;
            int i = now.at[person];
            for (int k = 0; k < 20 && i >= 0 && i != person; k++) {
                bits |= 1 << i;
                i = now.at[i];
            }
            return i == person ? bits : 0;
        }

        private int toCover(int far) throws Refusal {
            need(far, 0, 30);
            for (int size = 0; size <= boxes.size(); size++) {
                for (int bits = 0; bits < 1 << boxes.size(); bits++) {
                    if (Integer.bitCount(bits) == size && covered(bits, far)) {
                        return bits;
                    }
                }
            }
            return -1;
        }

        private boolean covered(int bits, int far) {
            for (int i = 0; i < people.size(); i++) {
                boolean near = false;
                for (int box = 0; box < boxes.size(); box++) {
                    near |= (bits & 1 << box) != 0 && way(box, i) <= far;
                }
                if (!near) {
                    return false;
                }
            }
            return true;
        }

        private int oneMore(int what) throws Refusal {
            needWhat(what, 2);
            int best = -1;
            int fewest = 100000;
            for (int place = 0; place <= 30; place++) {
                int ways = 0;
                for (int i = 0; i < people.size(); i++) {
                    int way = Math.abs(place - people.get(i)[0]);
                    for (int box = 0; box < boxes.size(); box++) {
                        way = Math.min(way, way(box, i));
                    }
                    ways += way;
                }
                if (ways < fewest) {
                    best = place;
                    fewest = ways;
                }
            }
            return what == 0 ? best : fewest;
        }

        private int middle() {
            int best = -1;
            int fewest = 100000;
            for (int place = 0; place <= 30; place++) {
                int ways = 0;
                for (int[] one : people) {
                    ways += Math.abs(place - one[0]);
                }
                if (ways < fewest) {
                    best = place;
                    fewest = ways;
                }
            }
            return best;
        }

        private int order(int i) throws Refusal {
            if (i != -1) {
                needBox(i);
            }
            if (boxes.isEmpty()) {
                return -1;
            }
            int most = -1;
            List<Integer> best = null;
            for (List<Integer> row : rows(new ArrayList<>())) {
                Situation s = now.copy();
                for (int box : row) {
                    pass(s, wetOn(s.day), box);
                }
                if (total(s.heard) > most) {
                    most = total(s.heard);
                    best = row;
                }
            }
            return i == -1 ? most - total(now.heard) : best.get(i);
        }

        private List<List<Integer>> rows(List<Integer> begun) {
            List<List<Integer>> all = new ArrayList<>();
            if (begun.size() == boxes.size()) {
                all.add(begun);
            }
            for (int box = 0; box < boxes.size(); box++) {
                if (!begun.contains(box)) {
                    List<Integer> longer = new ArrayList<>(begun);
                    longer.add(box);
                    all.addAll(rows(longer));
                }
            }
            return all;
        }

        private int note(int person, int days, int heard) throws Refusal {
            needPerson(person);
            if (noted.size() == 8 || days < 0 || days > 20 || heard < 0 || heard > 9999) {
                status[2]++;
                return -1;
            }
            noted.add(new int[] {person, days, heard});
            return noted.size();
        }

        private boolean agrees(Situation from) {
            Situation s = from.copy();
            for (int days = 0; days <= 20; days++) {
                for (int[] one : noted) {
                    if (one[1] == days && s.heard[one[0]] != one[2]) {
                        return false;
                    }
                }
                pass(s);
            }
            return true;
        }

        private Situation turned(int who, int whom) {
            Situation s = now.copy();
            s.at[who] = whom;
            return s;
        }

        private List<int[]> thoughts() {
            List<int[]> all = new ArrayList<>();
            for (int who = 0; who < people.size(); who++) {
                for (int whom = 0; whom < people.size(); whom++) {
                    if (who != whom && now.at[who] != whom && agrees(turned(who, whom))) {
                        all.add(new int[] {who, whom});
                    }
                }
            }
            return all;
        }

        private int thought(int what) throws Refusal {
            needWhat(what, 3);
            if (what == 2) {
                return agrees(now) ? 1 : 0;
            }
            List<int[]> all = thoughts();
            return what == 0 ? all.size() : all.isEmpty() ? -1 : 10 * all.get(0)[0] + all.get(0)[1];
        }

        private int ask(int what) throws Refusal {
            needWhat(what, 2);
            List<int[]> all = thoughts();
            int best = -1;
            int most = 0;
            for (int i = 0; i < people.size(); i++) {
                Set<Integer> sums = new HashSet<>();
                for (int[] one : all) {
                    Situation s = turned(one[0], one[1]);
                    for (int k = 0; k < 5; k++) {
                        pass(s);
                    }
                    sums.add(s.heard[i]);
                }
                if (sums.size() > most) {
                    best = i;
                    most = sums.size();
                }
            }
            return what == 0 ? best : most;
        }

        private int wetNights(int person, int much, int days, int tenths) throws Refusal {
            needPerson(person);
            need(much, 0, 9999);
            need(days, 1, 5);
            need(tenths, 0, 10);
            return nights(now, person, much, days, tenths);
        }

        private int nights(Situation s, int person, int much, int days, int tenths) {
            if (days == 0) {
                return s.heard[person] >= much ? 1 : 0;
            }
            Situation wetter = s.copy();
            pass(wetter, 9, boxOn(s.day));
            Situation drier = s.copy();
            pass(drier, 0, boxOn(s.day));
            return tenths * nights(wetter, person, much, days - 1, tenths)
                + (10 - tenths) * nights(drier, person, much, days - 1, tenths);
        }

        private int game(int person, int other, int what) throws Refusal {
            needPerson(person);
            needPerson(other);
            needWhat(what, 2);
            if (person == other) {
                throw illegal();
            }
            if (now.at[person] < 0 || now.at[other] < 0) {
                return -1;
            }
            int many = 0;
            int first = -1;
            for (int a = 0; a < 2; a++) {
                for (int b = 0; b < 2; b++) {
                    boolean rests = gain(person, other, a, b, person) >= gain(person, other, 1 - a, b, person)
                        && gain(person, other, a, b, other) >= gain(person, other, a, 1 - b, other);
                    first = rests && many == 0 ? 10 * a + b : first;
                    many += rests ? 1 : 0;
                }
            }
            return what == 0 ? many : first;
        }

        private int gain(int person, int other, int a, int b, int whose) {
            Situation s = now.copy();
            if (a == 1) {
                writes(s, person);
            }
            if (b == 1) {
                writes(s, other);
            }
            for (int i = 0; i < 3; i++) {
                pass(s);
            }
            return s.heard[whose] / 5 - s.regret[whose] / 5 - 2 * (whose == person ? a : b);
        }

        private int draw(int n) {
            seed = (int) (seed * 1103515245L + 12345L);
            return (seed >> 16 & 0x7fff) % n;
        }

        private int years(int start, int n, int what) throws Refusal {
            needWhat(what, 3);
            need(n, 0, 40);
            seed = start;
            Situation s = now.copy();
            for (int i = 0; i < n; i++) {
                int wetness = draw(10);
                if (!people.isEmpty()) {
                    int who = draw(people.size());
                    switch (draw(6)) {
                        case 0:
                            if (s.at[who] >= 0) {
                                writes(s, who);
                            }
                            break;
                        case 1: {
                            int whom = draw(people.size());
                            s.at[who] = whom == who ? -1 : whom;
                            break;
                        }
                        case 2: s.strike = !s.strike; break;
                        default: break;
                    }
                }
                pass(s, wetness, boxOn(s.day));
            }
            return new int[] {total(s.heard) - total(now.heard), total(s.regret), s.all()}[what];
        }

        private int pale(int box, int red) throws Refusal {
            needBox(box);
            need(red, 0, 99);
            for (int days = 0; days <= 40; days++) {
                if (ahead(days).red[box] <= red) {
                    return days;
                }
            }
            return -1;
        }

        private int visits(int box, int days) throws Refusal {
            needBox(box);
            need(days, 1, 60);
            int many = 0;
            for (int day = now.day; day < now.day + days; day++) {
                many += boxOn(day) == box ? 1 : 0;
            }
            return many;
        }

        private int steps(int person, int other) throws Refusal {
            needPerson(person);
            needPerson(other);
            int i = person;
            for (int k = 0; k < 30 && i >= 0; k++) {
                if (i == other) {
                    return k;
                }
                i = now.at[i];
            }
            return -1;
        }

        private int quiet(int person, int days) throws Refusal {
            needPerson(person);
            need(days, 1, 40);
            String row = "";
            for (int i = 0; i < days; i++) {
                row += ahead(i + 1).heard[person] > ahead(i).heard[person] ? " " : "q";
            }
            int longest = 0;
            for (String part : row.split(" ")) {
                longest = Math.max(longest, part.length());
            }
            return longest;
        }

        private int bestAt(int person, int days) throws Refusal {
            needPerson(person);
            need(days, 1, 40);
            int best = -1;
            int most = -1;
            for (int i = 0; i < people.size(); i++) {
                if (i == person) {
                    continue;
                }
                Situation s = turned(person, i);
                for (int k = 0; k < days; k++) {
                    pass(s);
                }
                if (s.heard[i] > most) {
                    best = i;
                    most = s.heard[i];
                }
            }
            return best;
        }

        private int whose(int box) throws Refusal {
            needBox(box);
            int best = -1;
            for (int i = 0; i < people.size(); i++) {
                if (now.held[box][i] > (best < 0 ? 0 : now.held[box][best])) {
                    best = i;
                }
            }
            return best;
        }
    }
}
