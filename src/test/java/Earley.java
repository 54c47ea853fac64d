import java.util.ArrayList;
import java.util.HashMap;
import java.util.HashSet;
import java.util.List;
import java.util.Map;
import java.util.Set;

/** The document's grammar written out as rules, one set of them for each depth, and read by Earley's method. */
final class Earley {
    private static final class Rule {
        private final String left;
        private final List<String> right;

        Rule(String left, List<String> right) {
            this.left = left;
            this.right = right;
        }
    }

    private record Item(Rule rule, int dot, int origin) {
        String next() {
            return dot < rule.right.size() ? rule.right.get(dot) : null;
        }

        Item advanced() {
            return new Item(rule, dot + 1, origin);
        }
    }

    private static final Map<String, List<Rule>> RULES = new HashMap<>();

    static {
        rule("START", "list END");
        rule("list", "");
        rule("list", "list line ;");
        rule("line", "parish NAME");
        rule("line", "notice NAME");
        rule("line", "road NAME from NAME to NAME days NUMBER");
        rule("line", "write NAME NAME as sum_0 when test_0");
        rule("line", "note NAME NAME with sum_0 when test_0");
        for (String way : "least most sum".split(" ")) {
            rule("line", "merge NAME NAME by " + way);
            rule("line", "merge NAME NAME by " + way + " when test_0");
        }
        rule("line", "send NAME");
        rule("line", "send NAME when test_0");
        for (int depth = 0; depth <= 8; depth++) {
            rulesOfDepth("_" + depth, depth < 8 ? "_" + (depth + 1) : null);
        }
    }

    private static void rulesOfDepth(String d, String deeper) {
        rule("test" + d, "both" + d);
        rule("test" + d, "test" + d + " or both" + d);
        rule("both" + d, "single" + d);
        rule("both" + d, "both" + d + " and single" + d);
        rule("single" + d, "torn NAME NAME");
        rule("single" + d, "known NAME NAME");
        for (String sign : "< > = <= >=".split(" ")) {
            rule("single" + d, "sum" + d + " " + sign + " sum" + d);
        }
        rule("sum" + d, "product" + d);
        rule("sum" + d, "sum" + d + " + product" + d);
        rule("sum" + d, "sum" + d + " - product" + d);
        rule("product" + d, "value" + d);
        rule("product" + d, "product" + d + " * value" + d);
        rule("product" + d, "product" + d + " / value" + d);
        for (String plain : new String[] {"NUMBER", "day", "waits NAME", "value NAME NAME", "sheets NAME NAME",
                "marks NAME NAME"}) {
            rule("value" + d, plain);
        }
        if (deeper != null) {
            rule("single" + d, "not single" + deeper);
            rule("single" + d, "[ test" + deeper + " ]");
            rule("value" + d, "- value" + deeper);
            rule("value" + d, "( sum" + deeper + " )");
            rule("value" + d, "min ( sum" + deeper + " , sum" + deeper + " )");
            rule("value" + d, "max ( sum" + deeper + " , sum" + deeper + " )");
        } else {
            // The document names the ( as what is too deep, not the min or max in front of it.
            rule("value" + d, "min NOTHING");
            rule("value" + d, "max NOTHING");
        }
    }

    private static void rule(String left, String right) {
        List<String> symbols = right.isEmpty() ? List.of() : List.of(right.split(" "));
        RULES.computeIfAbsent(left, k -> new ArrayList<>()).add(new Rule(left, symbols));
    }

    /** All items that have come so far to one place between tokens. */
    private static final class Place {
        private final Set<Item> all = new HashSet<>();
        private final List<Item> unread = new ArrayList<>();
        private final Map<String, List<Item>> byNext = new HashMap<>();

        void add(Item item) {
            if (all.add(item)) {
                unread.add(item);
                byNext.computeIfAbsent(item.next(), k -> new ArrayList<>()).add(item);
            }
        }

        List<Item> thatWaitFor(String symbol) {
            return byNext.getOrDefault(symbol, List.of());
        }
    }

    /** How many of the tokens are the beginning of a list; all of them, with END, if they are one. */
    static int fitting(List<String> kinds) {
        List<Place> places = new ArrayList<>();
        Place first = new Place();
        for (Rule rule : RULES.get("START")) {
            first.add(new Item(rule, 0, 0));
        }
        places.add(first);
        for (int at = 0; at < kinds.size(); at++) {
            close(places, at);
            List<Item> going = places.get(at).thatWaitFor(kinds.get(at));
            if (going.isEmpty()) {
                return at;
            }
            Place behind = new Place();
            for (Item item : going) {
                behind.add(item.advanced());
            }
            places.add(behind);
        }
        return kinds.size();
    }

    private static void close(List<Place> places, int at) {
        Place here = places.get(at);
        while (!here.unread.isEmpty()) {
            Item item = here.unread.remove(here.unread.size() - 1);
            if (item.next() == null) {
                for (Item waiting : new ArrayList<>(places.get(item.origin).thatWaitFor(item.rule.left))) {
                    here.add(waiting.advanced());
                }
            } else if (RULES.containsKey(item.next())) {
                for (Rule rule : RULES.get(item.next())) {
                    here.add(new Item(rule, 0, at));
                    // A rule with nothing in it is through as soon as it is begun.
                    if (rule.right.isEmpty()) {
                        here.add(item.advanced());
                    }
                }
            }
        }
    }

    private Earley() {
    }
}
