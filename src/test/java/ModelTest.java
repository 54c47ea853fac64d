import java.nio.charset.StandardCharsets;

/** Runs of thrown calls, each answer compared with the model's. */
public final class ModelTest {
    private static final Check CHECK = new Check();

    private interface Call {
        long answer();
    }

    private final Dice dice;
    private final Lists lists;
    private final ParishBoards boards = new ParishBoards();
    private final Model model = new Model();
    private final StringBuilder told = new StringBuilder();
    private int calls = 0;
    private boolean wrong = false;

    private ModelTest(int seed) {
        dice = new Dice(seed);
        lists = new Lists(dice);
    }

    public static void main(String[] args) {
        int runs = args.length > 0 ? Integer.parseInt(args[0]) : 400;
        int first = args.length > 1 ? Integer.parseInt(args[1]) : 0;
        for (int seed = first; seed < first + runs; seed++) {
            if (seed % 4 == 3) {
                new ModelTest(seed).languageRun();
            } else {
                new ModelTest(seed).daysRun();
            }
        }
        CHECK.end("ModelTest");
    }

    private void languageRun() {
        while (calls < 380 && !wrong) {
            String text = dice.once(5) ? lists.good() : dice.once(3) ? lists.deep() : lists.spoilt();
            teach(text);
            for (int what = 0; what <= 12; what++) {
                int number = what;
                same("count " + what, () -> boards.count(number), () -> model.count(number));
            }
            same("pass 3", () -> boards.pass(3), () -> model.pass(3));
            same("digest", () -> boards.digest(), () -> model.digest());
        }
    }

    private void daysRun() {
        teach(lists.good());
        while (calls < 500 && !wrong) {
            oneCall();
            if (dice.once(9)) {
                same("digest", () -> boards.digest(), () -> model.digest());
            }
            if (calls < 300 && dice.once(150)) {
                teach(dice.once(3) ? lists.spoilt() : lists.good());
            }
        }
    }

    private void teach(String text) {
        byte[] bytes = text.getBytes(StandardCharsets.ISO_8859_1);
        for (int at = 0; at < bytes.length; at += 20) {
            int[] n = new int[5];
            for (int i = 0; i < 20; i++) {
                n[i / 4] = n[i / 4] << 8 | (at + i < bytes.length ? bytes[at + i] & 255 : 'x');
            }
            same("feed", () -> boards.feed(n[0], n[1], n[2], n[3], n[4]), () -> model.feed(n));
        }
        same("trim", () -> boards.trim(bytes.length), () -> model.trim(bytes.length));
        same("teach " + text, () -> boards.teach(), () -> model.teach());
        same("errorAt", () -> boards.errorAt(), () -> model.errorAt());
    }

    private int parish() {
        return dice.once(30) ? dice.below(9) - 2 : dice.below(Math.max(1, model.count(1)));
    }

    private int notice() {
        return dice.once(30) ? dice.below(10) - 2 : dice.below(Math.max(1, model.count(2)));
    }

    private int road() {
        return dice.once(30) ? dice.below(12) - 2 : dice.below(Math.max(1, model.count(3)));
    }

    private int sheet() {
        return dice.once(30) ? dice.below(64) - 2 : dice.below(Math.max(1, model.count(5)));
    }

    private int upTo(int most) {
        return dice.once(20) ? dice.below(most + 5) - 2 : dice.below(most + 1);
    }

    private void oneCall() {
        int p = parish();
        int q = parish();
        int n = notice();
        int r = road();
        int s = sheet();
        int t = sheet();
        switch (dice.below(24)) {
            case 0:
            case 1: {
                int value = dice.once(9) ? dice.below(12000) - 1000 : dice.below(10000);
                same("write " + p + " " + n + " " + value, () -> boards.write(p, n, value),
                        () -> model.write(p, n, value));
                break;
            }
            case 2: {
                int mark = upTo(15);
                same("note " + p + " " + n + " " + mark, () -> boards.note(p, n, mark), () -> model.note(p, n, mark));
                break;
            }
            case 3: {
                int by = upTo(2);
                same("merge " + p + " " + n + " " + by, () -> boards.merge(p, n, by), () -> model.merge(p, n, by));
                break;
            }
            case 4:
            case 5:
                same("send " + r, () -> boards.send(r), () -> model.send(r));
                break;
            case 6: {
                int days = dice.once(10) ? dice.below(14) - 2 : 1 + dice.below(9);
                same("setDays " + r + " " + days, () -> boards.setDays(r, days), () -> model.setDays(r, days));
                break;
            }
            case 7:
            case 8: {
                int days = dice.once(20) ? dice.below(70) - 4 : 1 + dice.below(3);
                same("pass " + days, () -> boards.pass(days), () -> model.pass(days));
                break;
            }
            case 9: {
                int days = dice.once(20) ? dice.below(70) - 4 : 1 + dice.below(20);
                int what = dice.once(20) ? dice.below(16) - 2 : 5 + dice.below(7);
                same("foresee " + days + " " + what, () -> boards.foresee(days, what),
                        () -> model.foresee(days, what));
                break;
            }
            case 10:
            case 11:
                same("until " + p + " " + s, () -> boards.until(p, s), () -> model.until(p, s));
                break;
            case 12: {
                int days = dice.once(20) ? dice.below(40) - 4 : 1 + dice.below(12);
                same("advise " + days, () -> boards.advise(days), () -> model.advise(days));
                break;
            }
            case 13:
                same("alike", () -> boards.alike() ? 1 : 0, () -> model.alike() ? 1 : 0);
                break;
            case 14:
                same("missed", () -> boards.missed(), () -> model.missed());
                break;
            case 15:
                same("mean", () -> Double.doubleToRawLongBits(boards.mean()),
                        () -> Double.doubleToRawLongBits(model.mean()));
                break;
            case 16: {
                int what = upTo(12);
                same("count " + what, () -> boards.count(what), () -> model.count(what));
                break;
            }
            case 17: {
                int what = upTo(5);
                same("parish " + p + " " + what, () -> boards.parish(p, what), () -> model.parish(p, what));
                break;
            }
            case 18:
                same("knows " + p + " " + q, () -> boards.knows(p, q), () -> model.knows(p, q));
                break;
            case 19: {
                int what = upTo(7);
                same("sheet " + s + " " + what, () -> boards.sheet(s, what), () -> model.sheet(s, what));
                break;
            }
            case 20:
                same("stamp " + s + " " + p, () -> boards.stamp(s, p), () -> model.stamp(s, p));
                break;
            case 21: {
                int place = dice.below(4) - (dice.once(20) ? 2 : 0);
                same("shown " + p + " " + n + " " + place, () -> boards.shown(p, n, place),
                        () -> model.shown(p, n, place));
                break;
            }
            case 22:
                same("compare " + s + " " + t, () -> boards.compare(s, t), () -> model.compare(s, t));
                break;
            default: {
                int what = upTo(4);
                same("road " + r + " " + what, () -> boards.road(r, what), () -> model.road(r, what));
                break;
            }
        }
    }

    private void same(String what, Call call, Call due) {
        calls++;
        told.append(what).append('\n');
        String got = outcome(call);
        String wanted = outcome(due);
        if (!got.equals(wanted) && !wrong) {
            wrong = true;
            CHECK.fail(told + "answered " + got + ", the model " + wanted);
        }
        CHECK.is(what, wrong ? 1 : 0, 0);
    }

    private static String outcome(Call call) {
        try {
            return String.valueOf(call.answer());
        } catch (RuntimeException thrown) {
            return thrown.getClass().getName();
        }
    }
}
