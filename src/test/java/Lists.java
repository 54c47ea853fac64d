import java.util.ArrayList;
import java.util.List;

/** Makes lists up: most of them without an error, some with one put in. */
final class Lists {
    private final Dice dice;
    private final List<String> parishes = new ArrayList<>();
    private final List<String> notices = new ArrayList<>();
    private final List<String> roads = new ArrayList<>();

    Lists(Dice dice) {
        this.dice = dice;
    }

    /** A list without errors. */
    String good() {
        StringBuilder text = new StringBuilder();
        parishes.clear();
        notices.clear();
        roads.clear();
        int parishCount = dice.once(12) ? dice.below(6) : 2 + dice.below(4);
        for (int i = 0; i < parishCount; i++) {
            parishes.add("p" + i);
            text.append("parish p").append(i).append(";");
        }
        int noticeCount = dice.once(12) ? dice.below(7) : 1 + dice.below(3);
        for (int i = 0; i < noticeCount; i++) {
            notices.add("n" + i);
            text.append("notice n").append(i).append(";\n");
        }
        int roadCount = parishCount < 2 ? 0 : dice.below(9);
        for (int i = 0; i < roadCount; i++) {
            int from = dice.below(parishCount);
            int to = (from + 1 + dice.below(parishCount - 1)) % parishCount;
            roads.add("r" + i);
            text.append("road r").append(i).append(" from p").append(from).append(" to p").append(to)
                    .append(" days ").append(1 + dice.below(dice.once(3) ? 9 : 3)).append(";");
        }
        int orderCount = dice.below(dice.once(5) ? 21 : 9);
        for (int i = 0; i < orderCount && text.length() < 1700; i++) {
            text.append(order()).append(";");
        }
        return text.toString();
    }

    private String order() {
        boolean hasBoards = !parishes.isEmpty() && !notices.isEmpty();
        if (!roads.isEmpty() && (!hasBoards || dice.once(2))) {
            return "send " + roads.get(dice.below(roads.size())) + (dice.once(2) ? "" : " when " + test(0));
        }
        if (!hasBoards) {
            return "parish q";
        }
        switch (dice.below(4)) {
            case 0:
                return "merge " + board() + " by " + dice.of("least", "most", "sum")
                        + (dice.once(2) ? "" : " when " + test(0));
            case 1:
                return "note " + board() + " with " + markSum() + " when " + test(0);
            default:
                return "write " + board() + " as " + sum(0) + " when " + rareTest();
        }
    }

    private String markSum() {
        return dice.once(3) ? sum(0) : dice.of("day", "marks " + board(), "day / 2", "15", "16", "day - 2", "0");
    }

    private String rareTest() {
        if (dice.once(4)) {
            return test(0);
        }
        int days = 2 + dice.below(8);
        return "day / " + days + " * " + days + " = day" + (dice.once(2) ? "" : dice.of(" and ", " or ") + test(0));
    }

    private String board() {
        return parishes.get(dice.below(parishes.size())) + " " + notices.get(dice.below(notices.size()));
    }

    private String test(int depth) {
        StringBuilder text = new StringBuilder(single(depth));
        while (dice.once(3)) {
            text.append(dice.of(" and ", " or ")).append(single(depth));
        }
        return text.toString();
    }

    private String single(int depth) {
        boolean hasBoards = !parishes.isEmpty() && !notices.isEmpty();
        int throwOf = dice.below(8);
        if (throwOf == 0 && depth < 8) {
            return "not " + single(depth + 1);
        }
        if (throwOf == 1 && depth < 8) {
            return "[" + test(depth + 1) + "]";
        }
        if (throwOf < 4 && hasBoards) {
            return dice.of("torn ", "known ") + board();
        }
        return sum(depth) + " " + dice.of("<", ">", "=", "<=", ">=") + " " + sum(depth);
    }

    private String sum(int depth) {
        StringBuilder text = new StringBuilder(value(depth));
        while (dice.once(3)) {
            text.append(dice.of("+", "-", "*", "/", " + ", " * ")).append(value(depth));
        }
        return text.toString();
    }

    private String value(int depth) {
        boolean hasBoards = !parishes.isEmpty() && !notices.isEmpty();
        int throwOf = dice.below(12);
        if (depth < 8 && throwOf == 0) {
            return "-" + value(depth + 1);
        }
        if (depth < 8 && throwOf == 1) {
            return "(" + sum(depth + 1) + ")";
        }
        if (depth < 8 && throwOf == 2) {
            return dice.of("min", "max") + "(" + sum(depth + 1) + "," + sum(depth + 1) + ")";
        }
        if (throwOf < 7 && hasBoards) {
            return dice.of("value ", "sheets ", "marks ") + board();
        }
        if (throwOf == 7 && !parishes.isEmpty()) {
            return "waits " + parishes.get(dice.below(parishes.size()));
        }
        if (throwOf < 10) {
            return "day";
        }
        return String.valueOf(dice.below(dice.once(4) ? 1000000 : 12));
    }

    /** A list that may have an error: a byte or a piece is left out, doubled, or put in the place of another. */
    String spoilt() {
        StringBuilder text = new StringBuilder(good());
        int changes = 1 + dice.below(2);
        for (int i = 0; i < changes; i++) {
            int at = dice.below(text.length() + 1);
            int end = Math.min(text.length(), at + dice.below(8));
            switch (dice.below(6)) {
                case 0:
                    text.delete(at, end);
                    break;
                case 1:
                    text.insert(at, text.substring(at, end));
                    break;
                case 2:
                    text.insert(at, dice.of("parish", "road", "from", "to", "days", "notice", "write", "note", "merge",
                            "send", "as", "with", "by", "least", "most", "sum", "when", "day", "value", "sheets",
                            "marks", "waits", "torn", "known", "not", "and", "or", "min", "max", " ", ";", "(", ")",
                            "[", "]", ",", "+", "-", "*", "/", "<", ">", "=", "<=", ">=", "\n"));
                    break;
                case 3:
                    text.insert(at, (char) dice.below(256));
                    break;
                case 4:
                    spoilName(text, at);
                    break;
                default:
                    text.append(text.substring(at, end));
                    break;
            }
        }
        return text.length() > 1980 ? text.substring(0, 1980) : text.toString();
    }

    private void spoilName(StringBuilder text, int from) {
        for (int at = from; at < text.length(); at++) {
            if (Character.isDigit(text.charAt(at))) {
                text.setCharAt(at, (char) ('0' + dice.below(10)));
                return;
            }
        }
    }

    /** Tests and sums as deep as can be, or one deeper. */
    String deep() {
        String text = "parish p0;notice n0;write p0 n0 as " + nested(dice.below(9) + dice.below(2), false) + " when "
                + nested(dice.below(9), true) + dice.of(";", " and day<1;", " or day<1;", "");
        return dice.once(3) ? text.replace("9", dice.of("torn p0 n0", "-day", "(3)", "waits p0", "[4", "min(")) : text;
    }

    private String nested(int levels, boolean isTest) {
        if (levels == 0) {
            return isTest ? nested(dice.below(9) + dice.below(2), false) + dice.of("<", ">=") + "9" : dice.of("9", "8");
        }
        String inside = nested(levels - 1, isTest);
        if (isTest) {
            return dice.once(2) ? "not " + inside : "[" + dice.of("", "1=2 or ") + inside + dice.of("]", " and 1=1]");
        }
        switch (dice.below(5)) {
            case 0:
                return "-" + inside;
            case 1:
                return dice.of("min(1,", "max(2*") + inside + dice.of(")", ",3)");
            case 2:
                return "(" + inside + "-2)";
            default:
                return "min(" + inside + ",1)";
        }
    }
}
