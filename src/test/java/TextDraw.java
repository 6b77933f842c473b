import java.util.Random;

/** Draws texts of the document's language, some of them with a fault. */
final class TextDraw {
    private static final String[] LAWS = {"smoke", "cost", "brittle", "share"};
    private static final String[][] NAMES = {
        {"hour"}, {"hour", "blower", "lungs", "voice", "beads"}, {"hour", "kind", "want", "worth", "quarrels", "many"},
        {"hour", "blower", "lungs", "voice", "beads", "kind", "want", "worth", "breaths"}};
    private static final String[] PARTS = {"smoke", "cost", "brittle", "share", "begin", "blow", "wait", "by", "give", "if", "end",
        "or", "and", "not", "hour", "blower", "lungs", "voice", "beads", "kind", "want", "worth", "breaths", "quarrels", "many",
        "<", "<=", ">", ">=", "=", "#", "+", "-", "*", "/", "(", ")", ";", "?", ":", "0", "9999", "10000", "7", " ", "\n", "\t",
        "!", "x", "" + (char) 255, "" + (char) 0};

    private final Random draw;
    private final StringBuilder out = new StringBuilder();
    private int law;

    TextDraw(Random draw) {
        this.draw = draw;
    }

    String text() {
        int clauses = draw.nextInt(12) == 0 ? 22 + draw.nextInt(5) : draw.nextInt(8);
        for (int i = 0; i < clauses; i++) {
            int before = out.length();
            clause();
            if (out.length() > 300) {
                out.setLength(before);
            }
        }
        if (draw.nextInt(3) == 0) {
            spoil();
        }
        if (out.length() > 300) {
            out.setLength(300);
        }
        return out.toString();
    }

    private void spoil() {
        int at = draw.nextInt(out.length() + 1);
        String part = PARTS[draw.nextInt(PARTS.length)];
        switch (draw.nextInt(4)) {
            case 0 -> out.insert(at, part);
            case 1 -> out.setLength(at);
            case 2 -> out.delete(at, Math.min(out.length(), at + 1 + draw.nextInt(3)));
            default -> out.replace(at, Math.min(out.length(), at + part.length()), part);
        }
    }

    private void clause() {
        int kind = draw.nextInt(12);
        law = draw.nextInt(4);
        if (kind < 6 && (out.indexOf(LAWS[law]) < 0 || draw.nextInt(20) == 0)) {
            put(LAWS[law]);
            sum(draw.nextInt(5));
        } else if (kind < 7) {
            put("begin");
            number(0, draw.nextInt(20) == 0 ? 7 : 2);
        } else if (kind < 10) {
            put("blow");
            number(0, draw.nextInt(20) == 0 ? 11 : 4);
            put("by");
            number(0, draw.nextInt(20) == 0 ? 7 : 3);
            put("give");
            number(1, draw.nextInt(20) == 0 ? 11 : 3);
        } else {
            put("wait");
            number(draw.nextInt(20) == 0 ? 0 : 1, draw.nextInt(20) == 0 ? 110 : 3);
        }
        put(";");
    }

    private void put(String token) {
        if (out.length() > 0 && (Character.isLetterOrDigit(out.charAt(out.length() - 1)) || draw.nextInt(9) == 0)) {
            out.append(draw.nextInt(5) == 0 ? '\n' : ' ');
        }
        out.append(token);
    }

    private void number(int low, int high) {
        put(Integer.toString(low + draw.nextInt(high - low + 1)));
    }

    private void sum(int depth) {
        product(depth);
        while (draw.nextInt(5) < 2) {
            put(draw.nextBoolean() ? "+" : "-");
            product(depth);
        }
    }

    private void product(int depth) {
        one(depth);
        while (draw.nextInt(4) == 0) {
            put(draw.nextBoolean() ? "*" : "/");
            one(depth);
        }
    }

    private void one(int depth) {
        int pick = draw.nextInt(depth > 0 ? 10 : 6);
        if (pick < 2) {
            String[] names = NAMES[draw.nextInt(60) == 0 ? draw.nextInt(4) : law];
            put(names[draw.nextInt(names.length)]);
        } else if (pick < 6) {
            number(0, new int[] {3, 12, 100, 9999}[draw.nextInt(4)]);
        } else if (pick < 7) {
            int many = draw.nextInt(8) == 0 ? 7 + draw.nextInt(3) : 1;
            for (int i = 0; i < many; i++) {
                put("-");
            }
            one(depth - 1);
        } else if (pick < 8) {
            put("(");
            sum(depth - 1);
            put(")");
        } else {
            put("if");
            ask(depth - 1);
            while (draw.nextInt(3) == 0) {
                put(draw.nextBoolean() ? "or" : "and");
                ask(depth - 1);
            }
            put("?");
            sum(depth - 1);
            put(":");
            sum(depth - 1);
            put("end");
        }
    }

    private void ask(int depth) {
        while (draw.nextInt(4) == 0) {
            put("not");
        }
        sum(depth);
        put(new String[] {"<", "<=", ">", ">=", "=", "#"}[draw.nextInt(6)]);
        sum(depth);
    }
}
