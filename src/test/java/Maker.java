import java.util.ArrayList;
import java.util.List;
import java.util.Random;

// Texts by draws, always the same ones for the same seed.
final class Maker {
    private final Random random;

    Maker(long seed) {
        random = new Random(seed);
    }

    int below(int n) {
        return random.nextInt(n);
    }

    static String name(int c) {
        return "abcdefghijklmnopqrstuvwxyz".substring(c, c + 1).repeat(1 + c % 3);
    }

    // A BOOK without a FAULT; its CHANGES are fewer than asked if a settle found nothing to settle.
    String book(int islands, int most) {
        StringBuilder text = new StringBuilder();
        for (int i = 0; i < islands; i++) {
            text.append("island isle").append((char) ('a' + i)).append("; ");
        }
        Model model = new Model();
        for (int c = 0; c < most; c++) {
            String part = part(model, c);
            if (!part.isEmpty()) {
                text.append(part);
                model = new Model();
                model.readBook(text.toString());
            }
        }
        return text.toString();
    }

    private String part(Model model, int c) {
        List<Integer> bases = new ArrayList<>();
        for (int d = 0; d < model.count(); d++) {
            int kind = model.changes.get(d).kind;
            if (kind != Model.TAKE && kind != Model.SETTLE) {
                bases.add(d);
            }
        }
        int draw = bases.isEmpty() ? 0 : below(12);
        String head = name(c);
        if (draw < 2) {
            return "put " + head + " key " + below(6) + " says " + below(100) + after(model) + ";\n";
        }
        String of = " of " + nameOf(model, bases.isEmpty() ? 0 : bases.get(below(bases.size())));
        if (draw < 4) {
            return "take " + head + of + after(model) + ";";
        }
        if (draw < 7) {
            return "name " + head + of + " says " + below(100) + after(model) + "; ";
        }
        if (draw < 10) {
            return "move " + head + of + " key " + below(6) + after(model) + " ;";
        }
        List<int[]> couples = new ArrayList<>();
        for (int a = 0; a < model.count(); a++) {
            for (int b = 0; b < model.count(); b++) {
                if (model.wouldQuarrel(a, b)) {
                    couples.add(new int[] {a, b});
                }
            }
        }
        if (couples.isEmpty()) {
            return "";
        }
        int[] two = couples.get(below(couples.size()));
        return "settle " + head + " of " + nameOf(model, two[0]) + " not " + nameOf(model, two[1]) + after(model) + ";";
    }

    private static String nameOf(Model model, int c) {
        for (String name : model.names.keySet()) {
            if (model.names.get(name) == c) {
                return name;
            }
        }
        return "";
    }

    private String after(Model model) {
        if (model.count() == 0 || below(4) != 0) {
            return "";
        }
        int first = below(model.count());
        int second = below(model.count());
        String text = " after " + nameOf(model, first);
        return second == first || below(2) == 0 ? text : text + " " + nameOf(model, second);
    }

    // A LOG without a FAULT.
    String log(Model model, int most) {
        StringBuilder text = new StringBuilder();
        int[] left = {most};
        while (left[0] > 0) {
            steps(model, text, left, 0, 1 + below(4));
        }
        return text.toString();
    }

    private void steps(Model model, StringBuilder text, int[] left, int depth, int many) {
        for (int i = 0; i < many && left[0] > 0; i++) {
            left[0]--;
            step(model, text, left, depth);
        }
    }

    private void step(Model model, StringBuilder text, int[] left, int depth) {
        int draw = below(20);
        String isle = model.islands.get(below(model.islands.size()));
        String change = nameOf(model, below(model.count()));
        if (draw < 5) {
            text.append("make ").append(change).append(" at ").append(isle).append(";");
        } else if (draw < 10) {
            text.append("ship ").append(isle).append(" to ").append(model.islands.get(below(model.islands.size())));
            text.append(below(3) != 0 ? " late " + below(10) : "").append(below(3) == 0 ? " twice" : "").append(";");
        } else if (draw < 11) {
            text.append("out ").append(change).append(" at ").append(isle).append(";");
        } else if (draw < 13) {
            text.append("pick ").append(change).append(" at ").append(isle).append(";");
        } else if (draw < 15) {
            text.append("wait ").append(1 + below(below(4) == 0 ? 99 : 4)).append(";");
        } else if (draw < 16) {
            text.append("draw ").append(below(17)).append(";");
        } else if (draw < 17 && below(6) == 0) {
            text.append("stop;");
        } else if (depth < 3) {
            block(text, isle, change, below(2));
            steps(model, text, left, depth + 1, below(5));
            text.append("end;");
        } else {
            text.append("wait 1;");
        }
    }

    private void block(StringBuilder text, String isle, String change, int loop) {
        if (loop == 1) {
            text.append("loop ").append(1 + below(below(2) == 0 ? 99 : 5)).append(";");
        } else {
            String[] tests = {"has " + isle + " " + change, "quiet " + isle, "day " + below(12)};
            text.append("when ").append(tests[below(3)]).append(";");
        }
    }

    // A text with a few signs or words changed.
    String spoilt(String text) {
        StringBuilder spoilt = new StringBuilder(text);
        String[] pieces = {" ", ";", "a", "isleb", "12345", "9999", "10", "0", "abcdefghi", "abcdefgh", "of ", " after ", "end;",
            "loop 3;", "when day 3;", "?", "A", "\n", "\u00e9", "put ", "island ", "settle ", " not ", "take ", "late 3 ",
            "twice ", "stop;", "\t", "isle", "b", "cc", "100", "17", "99"};
        for (int i = 1 + below(2); i > 0; i--) {
            int place = below(spoilt.length() + 1);
            int end = Math.min(spoilt.length(), place + below(5));
            String piece = below(3) == 0 ? "" : pieces[below(pieces.length)];
            spoilt.replace(place, end, piece);
        }
        return below(10) == 0 ? spoilt.substring(0, below(spoilt.length() + 1)) : spoilt.toString();
    }
}
