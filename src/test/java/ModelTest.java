import java.util.ArrayList;
import java.util.HashSet;
import java.util.List;
import java.util.Random;
import java.util.Set;

/**
 * Long mixed runs of calls with fixed seeds, each answer compared with the answer of a model
 * that holds the documents as strings and follows the document's words one by one.
 */
public final class ModelTest {
    private static final int RUNS = 1500;
    private static final int CALLS = 512;
    private static final String[] METHODS = {
        "push", "paste", "open", "pop", "close", "documents", "length", "symbolAt", "ask",
        "forget", "count", "occurrence", "countIn", "spread", "longestEnd", "longestBegin",
        "ranked", "rankOf", "common", "repeated", "different", "extensions",
    };
    private static final int[] FAR = {
        Integer.MIN_VALUE, Integer.MIN_VALUE + 1, -64, -1, 0, 5, 63, 64, 319, 320, 384,
        Integer.MAX_VALUE - 1, Integer.MAX_VALUE,
    };

    private static final class Model {
        private final List<String> documents = new ArrayList<>(List.of(""));
        private String pattern = "";

        private int total() {
            return String.join("", documents).length();
        }

        private String last() {
            return documents.get(documents.size() - 1);
        }

        private void setLast(String symbols) {
            documents.set(documents.size() - 1, symbols);
        }

        private boolean good(int d) {
            return 0 <= d && d < documents.size();
        }

        private List<Integer> places() {
            List<Integer> places = new ArrayList<>();
            for (int d = 0; d < documents.size(); d++) {
                for (int p = 0; p < documents.get(d).length(); p++) {
                    places.add(64 * d + p);
                }
            }
            return places;
        }

        private String rest(int place) {
            return documents.get(place / 64).substring(place % 64);
        }

        private List<Integer> occurrences(String row) {
            List<Integer> found = new ArrayList<>(places());
            found.removeIf(place -> !rest(place).startsWith(row));
            return found;
        }

        /** String.compareTo is the order of the rests, and a stable sort keeps the documents'. */
        private List<Integer> order() {
            List<Integer> order = new ArrayList<>(places());
            order.sort((one, two) -> rest(one).compareTo(rest(two)));
            return order;
        }

        private int push(int symbol) {
            if (symbol < 0 || symbol > 4) {
                return -1;
            }
            if (total() == 60) {
                return -2;
            }
            setLast(last() + symbol);
            return total();
        }

        private int paste(int d, int spec) {
            if (!good(d)) {
                return -1;
            }
            int p = Math.floorDiv(spec, 64);
            int count = Math.floorMod(spec, 64);
            if (p < 0 || count < 1 || count > 60 || p + count > documents.get(d).length()) {
                return -2;
            }
            if (total() + count > 60) {
                return -3;
            }
            setLast(last() + documents.get(d).substring(p, p + count));
            return total();
        }

        private int open() {
            if (documents.size() == 5) {
                return -1;
            }
            documents.add("");
            return documents.size();
        }

        private int pop() {
            String symbols = last();
            if (symbols.isEmpty()) {
                return -1;
            }
            setLast(symbols.substring(0, symbols.length() - 1));
            return symbols.charAt(symbols.length() - 1) - '0';
        }

        private int close() {
            String symbols = documents.remove(documents.size() - 1);
            if (documents.isEmpty()) {
                documents.add("");
            }
            return symbols.length();
        }

        private int ask(int symbol) {
            if (symbol < 0 || symbol > 4) {
                return -1;
            }
            if (pattern.length() == 8) {
                return -2;
            }
            pattern += symbol;
            return pattern.length();
        }

        private int forget() {
            int had = pattern.length();
            pattern = "";
            return had;
        }

        private int occurrence(int i) {
            List<Integer> found = occurrences(pattern);
            return pattern.isEmpty() ? -1 : 0 <= i && i < found.size() ? found.get(i) : -2;
        }

        private int countIn(int d) {
            if (pattern.isEmpty()) {
                return -1;
            }
            return good(d)
                    ? (int) occurrences(pattern).stream().filter(place -> place / 64 == d).count()
                    : -2;
        }

        private int spread() {
            return pattern.isEmpty() ? -1
                    : (int) documents.stream().filter(text -> text.contains(pattern)).count();
        }

        private boolean occurs(String row) {
            return documents.stream().anyMatch(text -> text.contains(row));
        }

        private int longestEnd() {
            int greatest = 0;
            for (int k = 1; k <= pattern.length(); k++) {
                greatest = occurs(pattern.substring(pattern.length() - k)) ? k : greatest;
            }
            return greatest;
        }

        private int longestBegin() {
            int greatest = 0;
            for (int k = 1; k <= pattern.length(); k++) {
                greatest = occurs(pattern.substring(0, k)) ? k : greatest;
            }
            return greatest;
        }

        private int ranked(int i) {
            List<Integer> order = order();
            return 0 <= i && i < order.size() ? order.get(i) : -1;
        }

        private int common(int place, int other) {
            if (!places().contains(place) || !places().contains(other)) {
                return -1;
            }
            String rest = rest(place);
            int k = rest.length();
            while (!rest(other).startsWith(rest.substring(0, k))) {
                k--;
            }
            return k;
        }

        /** Every row once for each place it occurs at: the rows in seen, the repeated in again. */
        private int rows(boolean longestRepeated) {
            Set<String> seen = new HashSet<>();
            int again = 0;
            for (int place : places()) {
                for (int k = 1; k <= rest(place).length(); k++) {
                    if (!seen.add(rest(place).substring(0, k))) {
                        again = Math.max(again, k);
                    }
                }
            }
            return longestRepeated ? again : seen.size();
        }

        private int extensions() {
            int found = 0;
            for (int symbol = 0; symbol < 5; symbol++) {
                found += occurs(symbol + pattern) ? 1 : 0;
            }
            return found;
        }

        private int answer(String method, int a, int b) {
            switch (method) {
                case "push": return push(a);
                case "paste": return paste(a, b);
                case "open": return open();
                case "pop": return pop();
                case "close": return close();
                case "documents": return documents.size();
                case "length": return good(a) ? documents.get(a).length() : -1;
                case "symbolAt": return places().contains(a) ? rest(a).charAt(0) - '0' : -1;
                case "ask": return ask(a);
                case "forget": return forget();
                case "count": return pattern.isEmpty() ? -1 : occurrences(pattern).size();
                case "occurrence": return occurrence(a);
                case "countIn": return countIn(a);
                case "spread": return spread();
                case "longestEnd": return longestEnd();
                case "longestBegin": return longestBegin();
                case "ranked": return ranked(a);
                case "rankOf": return order().indexOf(a);
                case "common": return common(a, b);
                case "repeated": return rows(true);
                case "different": return rows(false);
                case "extensions": return extensions();
                default: throw new IllegalArgumentException(method);
            }
        }
    }

    private static int answer(FmIndex x, String method, int a, int b) {
        switch (method) {
            case "push": return x.push(a);
            case "paste": return x.paste(a, b);
            case "open": return x.open();
            case "pop": return x.pop();
            case "close": return x.close();
            case "documents": return x.documents();
            case "length": return x.length(a);
            case "symbolAt": return x.symbolAt(a);
            case "ask": return x.ask(a);
            case "forget": return x.forget();
            case "count": return x.count();
            case "occurrence": return x.occurrence(a);
            case "countIn": return x.countIn(a);
            case "spread": return x.spread();
            case "longestEnd": return x.longestEnd();
            case "longestBegin": return x.longestBegin();
            case "ranked": return x.ranked(a);
            case "rankOf": return x.rankOf(a);
            case "common": return x.common(a, b);
            case "repeated": return x.repeated();
            case "different": return x.different();
            case "extensions": return x.extensions();
            default: throw new IllegalArgumentException(method);
        }
    }

    /** How a run draws its calls: few symbols make repeats, rare pops and closes fill the room. */
    private static final class Draw {
        private final Random random;
        private final int symbols;
        private final int rarely;

        private Draw(int run) {
            random = new Random(run);
            symbols = 1 + run % 5;
            rarely = 1 + run % 7 * 6;
        }

        private String method() {
            int kind = random.nextInt(10);
            if (kind < 3) {
                return "push";
            }
            if (kind == 3) {
                return "ask";
            }
            String method = METHODS[random.nextInt(METHODS.length)];
            boolean takes = method.equals("close") || method.equals("pop")
                    || method.equals("forget") && random.nextBoolean();
            return takes && random.nextInt(rarely) != 0 ? "paste" : method;
        }

        private int place(Model model) {
            List<Integer> places = model.places();
            if (places.isEmpty() || random.nextInt(8) == 0) {
                return random.nextInt(340) - 10;
            }
            return places.get(random.nextInt(places.size()));
        }

        private int first(String method, Model model) {
            if (random.nextInt(25) == 0) {
                return FAR[random.nextInt(FAR.length)];
            }
            switch (method) {
                case "push": case "ask":
                    return random.nextInt(30) == 0 ? random.nextInt(9) - 2 : random.nextInt(symbols);
                case "paste": case "length": case "countIn":
                    return random.nextInt(model.documents.size() + 1);
                case "symbolAt": case "rankOf": case "common":
                    return place(model);
                case "occurrence":
                    return random.nextInt(model.occurrences(model.pattern).size() + 2) - 1;
                default:
                    return random.nextInt(model.total() + 2) - 1;
            }
        }

        private int second(String method, int first, Model model) {
            if (random.nextInt(25) == 0) {
                return FAR[random.nextInt(FAR.length)];
            }
            if (!method.equals("paste")) {
                return place(model);
            }
            int length = model.good(first) ? model.documents.get(first).length() : 0;
            int p = random.nextInt(length + 1);
            int most = random.nextInt(4) == 0 ? 64 : length - p + 2;
            return 64 * p + random.nextInt(most);
        }
    }

    private static int wrong;

    private static void run(int number) {
        Draw draw = new Draw(number);
        FmIndex x = new FmIndex();
        Model model = new Model();
        for (int call = 1; call <= CALLS; call++) {
            String method = draw.method();
            int a = draw.first(method, model);
            int b = draw.second(method, a, model);
            String before = model.documents + " asked " + model.pattern;
            int want = model.answer(method, a, b);
            int got = answer(x, method, a, b);
            if (got != want) {
                wrong++;
                System.out.println("run " + number + ", call " + call + ": " + method + "(" + a
                        + ", " + b + ") answered " + got + ", due is " + want + "; was " + before);
                return;
            }
        }
    }

    /** What a call after the 512th answers is free, but none may throw: rule 7 of LANGUAGE.md. */
    private static void laterCalls(int number) {
        Draw draw = new Draw(number);
        FmIndex x = new FmIndex();
        Model model = new Model();
        for (int call = 1; call <= 20 * CALLS; call++) {
            String method = draw.method();
            int a = draw.first(method, model);
            int b = draw.second(method, a, model);
            model.answer(method, a, b);
            answer(x, method, a, b);
        }
    }

    public static void main(String[] args) {
        for (int number = 0; number < RUNS && wrong < 10; number++) {
            run(number);
        }
        for (int number = 0; number < 5; number++) {
            laterCalls(number);
        }
        System.out.println(wrong == 0 ? "all answers are as due" : wrong + " runs are not as due");
        if (wrong != 0) {
            System.exit(1);
        }
    }
}
