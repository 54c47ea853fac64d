import java.nio.charset.StandardCharsets;
import java.util.ArrayList;
import java.util.Arrays;
import java.util.HashSet;
import java.util.List;
import java.util.Set;
import java.util.TreeSet;
import java.util.regex.Matcher;
import java.util.regex.Pattern;

/**
 * The document once more, told in another way: boards are sets of known sheets, a sheet has the set of what
 * was known where it was made, and what a board shows is reckoned from these sets.
 */
final class Model {
    private static final Set<String> KEYWORDS = new HashSet<>(Arrays.asList((
            "parish road from to days notice write note merge send as with by least most sum when day value sheets "
            + "marks waits torn known not and or min max").split(" ")));
    private static final Pattern TOKEN = Pattern.compile("[a-z][a-z0-9]*|[0-9]+|<=|>=|[()\\[\\];,+\\-*/<>=]");

    private record Token(String kind, String text, int start) {
    }

    private record Way(int from, int to) {
    }

    private record Sheet(int parish, int notice, int value, int marks, int day, int how, Set<Integer> past) {
    }

    private record Load(int road, int comes, Set<Integer> sheets) {
    }

    private byte[] tape = new byte[0];
    private int errorAt = -1;
    private List<Token> tokens = new ArrayList<>();
    private List<String> parishes = new ArrayList<>();
    private List<String> notices = new ArrayList<>();
    private List<String> roadNames = new ArrayList<>();
    private List<Way> ways = new ArrayList<>();
    private List<Integer> orders = new ArrayList<>();

    private int day = 0;
    private int hung = 0;
    private int carriedOut = 0;
    private List<Sheet> sheets = new ArrayList<>();
    private List<Set<Integer>> known = new ArrayList<>();
    private List<Set<Integer>> waiting = new ArrayList<>();
    private List<Load> loads = new ArrayList<>();
    private List<Integer> roadDays = new ArrayList<>();

    // ---- the language

    int feed(int... numbers) {
        if (tape.length + 20 > 2000) {
            throw new IllegalStateException();
        }
        byte[] longer = Arrays.copyOf(tape, tape.length + 20);
        for (int i = 0; i < 20; i++) {
            longer[tape.length + i] = (byte) (numbers[i / 4] >>> 8 * (3 - i % 4));
        }
        tape = longer;
        return tape.length;
    }

    int trim(int n) {
        if (n < 0 || n > tape.length) {
            throw new IllegalArgumentException();
        }
        tape = Arrays.copyOf(tape, n);
        return n;
    }

    int teach() {
        List<Token> read = tokensOf(new String(tape, StandardCharsets.ISO_8859_1));
        tape = new byte[0];
        List<String> kinds = new ArrayList<>();
        for (Token token : read) {
            kinds.add(token.kind);
        }
        int fitting = Earley.fitting(kinds);
        if (fitting < kinds.size()) {
            errorAt = read.get(fitting).start;
            return 1;
        }
        Model next = new Model();
        next.tokens = read;
        int error = next.lookAtAll();
        errorAt = next.errorAt;
        if (error == 0) {
            take(next);
        }
        return error;
    }

    int errorAt() {
        return errorAt;
    }

    private static List<Token> tokensOf(String text) {
        List<Token> all = new ArrayList<>();
        Matcher matcher = TOKEN.matcher(text);
        int at = 0;
        while (true) {
            while (at < text.length() && (text.charAt(at) == ' ' || text.charAt(at) == '\n')) {
                at++;
            }
            if (at == text.length()) {
                all.add(new Token("END", "", at));
                return all;
            }
            if (all.size() == 400 || !matcher.region(at, text.length()).lookingAt()) {
                all.add(new Token("WRONG", "", at));
                return all;
            }
            String found = matcher.group();
            all.add(new Token(kindOf(found), found, at));
            at += found.length();
        }
    }

    private static String kindOf(String text) {
        if (Character.isDigit(text.charAt(0))) {
            return text.length() <= 6 ? "NUMBER" : "WRONG";
        }
        if (!Character.isLetter(text.charAt(0)) || KEYWORDS.contains(text)) {
            return text;
        }
        return text.length() <= 10 ? "NAME" : "WRONG";
    }

    private int lookAtAll() {
        for (int i = 0; i < tokens.size(); i++) {
            int error = lookAt(i);
            if (error != 0) {
                errorAt = tokens.get(i).start;
                return error;
            }
        }
        errorAt = -1;
        for (int i = 0; i < parishes.size(); i++) {
            known.add(new TreeSet<>());
            waiting.add(new TreeSet<>());
        }
        return 0;
    }

    /** The error at the token itself, by what stands in front of it. */
    private int lookAt(int i) {
        String before = kind(i - 1);
        String twoBefore = kind(i - 2);
        String here = text(i);
        if (Set.of("write", "note", "merge", "send").contains(kind(i))) {
            orders.add(i);
            return orders.size() > 20 ? 4 : 0;
        }
        if (before.equals("parish")) {
            return told(parishes, here, 5);
        }
        if (before.equals("notice")) {
            return told(notices, here, 6);
        }
        if (before.equals("road")) {
            return told(roadNames, here, 8);
        }
        if (before.equals("send")) {
            return roadNames.contains(here) ? 0 : 3;
        }
        if (before.equals("to")) {
            return !parishes.contains(here) ? 3 : here.equals(text(i - 2)) ? 5 : 0;
        }
        if (before.equals("days")) {
            int days = Integer.parseInt(here);
            roadDays.add(days);
            ways.add(new Way(parishes.indexOf(text(i - 4)), parishes.indexOf(text(i - 2))));
            return days < 1 || days > 9 ? 5 : 0;
        }
        Set<String> ofBoth = Set.of("write", "note", "merge", "torn", "known", "value", "sheets", "marks");
        if (before.equals("from") || before.equals("waits") || ofBoth.contains(before)) {
            return parishes.contains(here) ? 0 : 3;
        }
        if (ofBoth.contains(twoBefore)) {
            return notices.contains(here) ? 0 : 3;
        }
        return 0;
    }

    private static int told(List<String> names, String name, int most) {
        int error = names.contains(name) ? 2 : names.size() == most ? 4 : 0;
        names.add(name);
        return error;
    }

    private String kind(int i) {
        return i < 0 ? "" : tokens.get(i).kind;
    }

    private String text(int i) {
        return i < 0 ? "" : tokens.get(i).text;
    }

    private void take(Model next) {
        tokens = next.tokens;
        parishes = next.parishes;
        notices = next.notices;
        roadNames = next.roadNames;
        ways = next.ways;
        orders = next.orders;
        day = next.day;
        hung = next.hung;
        carriedOut = next.carriedOut;
        sheets = next.sheets;
        known = next.known;
        waiting = next.waiting;
        loads = next.loads;
        roadDays = next.roadDays;
    }

    private Model copy() {
        Model other = new Model();
        other.take(this);
        other.sheets = new ArrayList<>(sheets);
        other.known = copies(known);
        other.waiting = copies(waiting);
        other.loads = new ArrayList<>(loads);
        other.roadDays = new ArrayList<>(roadDays);
        return other;
    }

    private static List<Set<Integer>> copies(List<Set<Integer>> sets) {
        List<Set<Integer>> all = new ArrayList<>();
        for (Set<Integer> set : sets) {
            all.add(new TreeSet<>(set));
        }
        return all;
    }

    // ---- what there is

    int count(int what) {
        int all = 0;
        switch (what) {
            case 0: return day;
            case 1: return parishes.size();
            case 2: return notices.size();
            case 3: return ways.size();
            case 4: return orders.size();
            case 5: return sheets.size();
            case 6:
                for (int r = 0; r < ways.size(); r++) {
                    all += road(r, 3);
                }
                return all;
            case 7:
                for (Set<Integer> waits : waiting) {
                    all += waits.size();
                }
                return all;
            case 8:
                for (int p = 0; p < parishes.size(); p++) {
                    all += parish(p, 3);
                }
                return all;
            case 9: return hung;
            case 10:
                for (Sheet sheet : sheets) {
                    all += sheet.how == 2 ? 1 : 0;
                }
                return all;
            case 11: return carriedOut;
            case 12: return tape.length;
            default: throw new IndexOutOfBoundsException();
        }
    }

    int parish(int parish, int what) {
        index(parish, parishes.size());
        int all = 0;
        switch (what) {
            case 0: return known.get(parish).size();
            case 1: return waiting.get(parish).size();
            case 2:
            case 3:
                for (int n = 0; n < notices.size(); n++) {
                    all += shownAll(parish, n).size() >= what - 1 ? 1 : 0;
                }
                return all;
            case 4:
                for (Sheet sheet : sheets) {
                    all += sheet.parish == parish ? 1 : 0;
                }
                return all;
            case 5:
                for (Way way : ways) {
                    all += way.from == parish ? 1 : 0;
                }
                return all;
            default: throw new IndexOutOfBoundsException();
        }
    }

    int knows(int parish, int other) {
        index(parish, parishes.size());
        index(other, parishes.size());
        return madeAt(known.get(parish), other);
    }

    int sheet(int number, int what) {
        index(number, sheets.size());
        Sheet sheet = sheets.get(number);
        int all = 0;
        switch (what) {
            case 0: return sheet.parish;
            case 1: return sheet.notice;
            case 2: return sheet.value;
            case 3: return sheet.marks;
            case 4: return sheet.day;
            case 5: return sheet.how;
            case 6:
                for (Set<Integer> knows : known) {
                    all += knows.contains(number) ? 1 : 0;
                }
                return all;
            case 7:
                for (int p = 0; p < parishes.size(); p++) {
                    all += shownAll(p, sheet.notice).contains(number) ? 1 : 0;
                }
                return all;
            default: throw new IndexOutOfBoundsException();
        }
    }

    int stamp(int sheet, int parish) {
        index(sheet, sheets.size());
        index(parish, parishes.size());
        return madeAt(sheets.get(sheet).past, parish) + (sheets.get(sheet).parish == parish ? 1 : 0);
    }

    int shown(int parish, int notice, int place) {
        index(parish, parishes.size());
        index(notice, notices.size());
        index(place, shownAll(parish, notice).size());
        return shownAll(parish, notice).get(place);
    }

    int compare(int a, int b) {
        index(a, sheets.size());
        index(b, sheets.size());
        return a == b ? 0 : isAhead(a, b) ? 1 : isAhead(b, a) ? 2 : 3;
    }

    int road(int road, int what) {
        index(road, ways.size());
        int all = 0;
        switch (what) {
            case 0: return ways.get(road).from;
            case 1: return ways.get(road).to;
            case 2: return roadDays.get(road);
            case 3:
            case 4:
                for (Load load : loads) {
                    if (load.road == road) {
                        all += what == 4 ? 1 : load.comes >= day ? load.sheets.size() : 0;
                    }
                }
                return all;
            default: throw new IndexOutOfBoundsException();
        }
    }

    private static void index(int i, int size) {
        if (i < 0 || i >= size) {
            throw new IndexOutOfBoundsException();
        }
    }

    private int madeAt(Set<Integer> some, int parish) {
        int all = 0;
        for (int number : some) {
            all += sheets.get(number).parish == parish ? 1 : 0;
        }
        return all;
    }

    private boolean isAhead(int a, int b) {
        return sheets.get(b).past.contains(a);
    }

    /** The known sheets of the notice that are ahead of no other known one, by their parishes. */
    private List<Integer> shownAll(int parish, int notice) {
        List<Integer> all = new ArrayList<>();
        for (int p = 0; p < parishes.size(); p++) {
            for (int a : known.get(parish)) {
                if (sheets.get(a).parish == p && sheets.get(a).notice == notice && isLast(parish, a)) {
                    all.add(a);
                }
            }
        }
        return all;
    }

    private boolean isLast(int parish, int a) {
        for (int b : known.get(parish)) {
            if (isAhead(a, b) && sheets.get(b).notice == sheets.get(a).notice) {
                return false;
            }
        }
        return true;
    }

    private int marks(int parish, int notice) {
        int marks = 0;
        for (int number : shownAll(parish, notice)) {
            marks |= sheets.get(number).marks;
        }
        return marks;
    }

    // ---- by hand

    int write(int parish, int notice, int value) {
        index(parish, parishes.size());
        index(notice, notices.size());
        argument(value >= 0 && value <= 9999);
        state(sheets.size() < 60);
        return make(parish, notice, value, marks(parish, notice), 0);
    }

    int note(int parish, int notice, int mark) {
        index(parish, parishes.size());
        index(notice, notices.size());
        argument(mark >= 0 && mark <= 15);
        state(sheets.size() < 60 && shownAll(parish, notice).size() == 1);
        int value = sheets.get(shownAll(parish, notice).get(0)).value;
        return make(parish, notice, value, marks(parish, notice) | 1 << mark, 1);
    }

    int merge(int parish, int notice, int by) {
        index(parish, parishes.size());
        index(notice, notices.size());
        index(by, 3);
        state(sheets.size() < 60 && shownAll(parish, notice).size() >= 2);
        List<Integer> values = new ArrayList<>();
        int sum = 0;
        for (int number : shownAll(parish, notice)) {
            values.add(sheets.get(number).value);
            sum += sheets.get(number).value;
        }
        values.sort(null);
        int merged = by == 0 ? values.get(0) : by == 1 ? values.get(values.size() - 1) : sum > 9999 ? 9999 : sum;
        return make(parish, notice, merged, marks(parish, notice), 2);
    }

    int send(int road) {
        index(road, ways.size());
        Set<Integer> carried = new TreeSet<>(known.get(ways.get(road).from));
        for (Load load : loads) {
            if (load.road == road) {
                carried.removeAll(load.sheets);
            }
        }
        if (!carried.isEmpty()) {
            loads.add(new Load(road, day + roadDays.get(road), carried));
        }
        return carried.size();
    }

    int setDays(int road, int days) {
        index(road, ways.size());
        argument(days >= 1 && days <= 9);
        return roadDays.set(road, days);
    }

    private int make(int parish, int notice, int value, int marks, int how) {
        Set<Integer> past = new TreeSet<>(known.get(parish));
        sheets.add(new Sheet(parish, notice, value, marks, day, how, past));
        known.get(parish).add(sheets.size() - 1);
        return sheets.size() - 1;
    }

    private static void argument(boolean can) {
        if (!can) {
            throw new IllegalArgumentException();
        }
    }

    private static void state(boolean can) {
        if (!can) {
            throw new IllegalStateException();
        }
    }

    // ---- days and what would be

    int pass(int days) {
        argument(days >= 1 && days <= 60);
        int before = hung;
        for (int i = 0; i < days; i++) {
            passDay();
        }
        return hung - before;
    }

    int foresee(int days, int what) {
        argument(days >= 1 && days <= 60);
        index(what - 5, 7);
        Model later = copy();
        later.pass(days);
        return later.count(what);
    }

    int until(int parish, int sheet) {
        index(parish, parishes.size());
        index(sheet, sheets.size());
        Model later = copy();
        int days = 0;
        while (!later.known.get(parish).contains(sheet)) {
            if (days == 60) {
                return -1;
            }
            later.passDay();
            days++;
        }
        return days;
    }

    boolean alike() {
        for (int n = 0; n < notices.size(); n++) {
            Set<List<Integer>> all = new HashSet<>();
            for (int p = 0; p < parishes.size(); p++) {
                all.add(shownAll(p, n));
            }
            if (all.size() > 1) {
                return false;
            }
        }
        return true;
    }

    int missed() {
        for (int number = 0; number < sheets.size(); number++) {
            for (Set<Integer> knows : known) {
                if (!knows.contains(number)) {
                    return number;
                }
            }
        }
        return -1;
    }

    int advise(int days) {
        argument(days >= 1 && days <= 30);
        Model plain = copy();
        plain.pass(days);
        int most = plain.allKnown();
        int best = -1;
        for (int r = 0; r < ways.size(); r++) {
            Model later = copy();
            later.send(r);
            later.pass(days);
            if (later.allKnown() > most) {
                most = later.allKnown();
                best = r;
            }
        }
        return best;
    }

    double mean() {
        return parishes.isEmpty() ? 0 : (double) allKnown() / parishes.size();
    }

    private int allKnown() {
        int all = 0;
        for (Set<Integer> knows : known) {
            all += knows.size();
        }
        return all;
    }

    long digest() {
        List<Integer> all = new ArrayList<>();
        for (int what = 0; what <= 12; what++) {
            all.add(count(what));
        }
        for (int p = 0; p < parishes.size(); p++) {
            for (int what = 0; what <= 5; what++) {
                all.add(parish(p, what));
            }
            for (int q = 0; q < parishes.size(); q++) {
                all.add(knows(p, q));
            }
            for (int n = 0; n < notices.size(); n++) {
                all.addAll(shownAll(p, n));
            }
        }
        for (int number = 0; number < sheets.size(); number++) {
            for (int what = 0; what <= 7; what++) {
                all.add(sheet(number, what));
            }
            for (int p = 0; p < parishes.size(); p++) {
                all.add(stamp(number, p));
            }
        }
        for (int r = 0; r < ways.size(); r++) {
            for (int what = 0; what <= 4; what++) {
                all.add(road(r, what));
            }
        }
        long d = 929;
        for (int x : all) {
            d = d * 31 + x;
        }
        return d;
    }

    private void passDay() {
        for (int start : orders) {
            if (carryOut(start)) {
                carriedOut++;
            }
        }
        for (Load load : loads) {
            if (load.comes == day) {
                int there = ways.get(load.road).to;
                for (int number : load.sheets) {
                    if (!known.get(there).contains(number)) {
                        waiting.get(there).add(number);
                    }
                }
            }
        }
        for (int p = 0; p < parishes.size(); p++) {
            while (hangOne(p)) {
                hung++;
            }
        }
        day++;
    }

    private boolean hangOne(int parish) {
        for (int number : waiting.get(parish)) {
            if (known.get(parish).containsAll(sheets.get(number).past)) {
                waiting.get(parish).remove(number);
                known.get(parish).add(number);
                return true;
            }
        }
        return false;
    }

    private boolean carryOut(int start) {
        int end = start;
        while (!text(end).equals(";")) {
            end++;
        }
        int when = start;
        while (when < end && !text(when).equals("when")) {
            when++;
        }
        Reckoner reckoner = new Reckoner(when + 1);
        if (when < end && !reckoner.test()) {
            return false;
        }
        if (text(start).equals("send")) {
            return send(roadNames.indexOf(text(start + 1))) > 0;
        }
        int parish = parishes.indexOf(text(start + 1));
        int notice = notices.indexOf(text(start + 2));
        try {
            if (text(start).equals("merge")) {
                merge(parish, notice, List.of("least", "most", "sum").indexOf(text(start + 4)));
                return true;
            }
            int sum = new Reckoner(start + 4).sum();
            if (text(start).equals("write")) {
                write(parish, notice, sum < 0 ? 0 : sum > 9999 ? 9999 : sum);
                return true;
            }
            if (sum >= 0 && sum <= 15 && (marks(parish, notice) & 1 << sum) != 0) {
                return false;
            }
            note(parish, notice, sum);
            return true;
        } catch (IllegalArgumentException | IllegalStateException cannot) {
            return false;
        }
    }

    /** Reckons straight from the tokens, which are known to be a list. */
    private final class Reckoner {
        private int at;

        Reckoner(int at) {
            this.at = at;
        }

        boolean test() {
            boolean holds = both();
            while (took("or")) {
                holds = both() || holds;
            }
            return holds;
        }

        private boolean both() {
            boolean holds = single();
            while (took("and")) {
                holds = single() && holds;
            }
            return holds;
        }

        private boolean single() {
            if (took("not")) {
                return !single();
            }
            if (took("[")) {
                boolean holds = test();
                at++;
                return holds;
            }
            if (took("torn")) {
                return shownHere().size() > 1;
            }
            if (took("known")) {
                return !shownHere().isEmpty();
            }
            int left = sum();
            String sign = text(at++);
            int right = sum();
            int order = Integer.compare(left, right);
            return sign.contains("=") && order == 0 || sign.contains("<") && order < 0
                    || sign.contains(">") && order > 0;
        }

        int sum() {
            int all = product();
            while (true) {
                if (took("+")) {
                    all += product();
                } else if (took("-")) {
                    all -= product();
                } else {
                    return all;
                }
            }
        }

        private int product() {
            int all = value();
            while (true) {
                if (took("*")) {
                    all *= value();
                } else if (took("/")) {
                    int by = value();
                    all = by == 0 ? 0 : (int) ((long) all / by);
                } else {
                    return all;
                }
            }
        }

        private int value() {
            if (took("-")) {
                return -value();
            }
            if (took("(")) {
                int all = sum();
                at++;
                return all;
            }
            String what = text(at++);
            switch (what) {
                case "day":
                    return day;
                case "min":
                case "max":
                    at++;
                    int left = sum();
                    at++;
                    int right = sum();
                    at++;
                    return what.equals("min") == left < right ? left : right;
                case "waits":
                    return waiting.get(parishes.indexOf(text(at++))).size();
                case "value":
                    List<Integer> all = shownHere();
                    return all.isEmpty() ? 0 : sheets.get(all.get(0)).value;
                case "sheets":
                    return shownHere().size();
                case "marks":
                    at += 2;
                    return Integer.bitCount(marks(parishes.indexOf(text(at - 2)), notices.indexOf(text(at - 1))));
                default:
                    return Integer.parseInt(what);
            }
        }

        private List<Integer> shownHere() {
            at += 2;
            return shownAll(parishes.indexOf(text(at - 2)), notices.indexOf(text(at - 1)));
        }

        private boolean took(String what) {
            if (text(at).equals(what)) {
                at++;
                return true;
            }
            return false;
        }
    }
}
