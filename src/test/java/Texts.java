import java.util.Random;

/** Draws TEXTS: some stand, some have a FAULT. */
final class Texts {
    private static final String[] CLAUSES = {"ahead", "share", "limit", "sum", "must", "show"};
    private static final String[] JUNK = {"heads", "ahead", "must", "and", "or", "not", "(", ")", "[", "]", ";", "<", ">", "=",
        "+", "-", "*", "/", "0", "99999", "100000", "0000012", "x", "headss", "A", "\t", "\u00e4", "  ", "\n", "7a", "kin"};

    private final Random random;

    Texts(Random random) { this.random = random; }

    String text(boolean broken) {
        StringBuilder text = new StringBuilder();
        int last = random.nextInt(3) == 0 ? 6 : 1 + random.nextInt(6);
        for (int c = random.nextInt(2); c < last; c++) {
            int clause = broken && random.nextInt(4) == 0 ? random.nextInt(6) : c;
            if (random.nextInt(3) == 0) continue;
            blank(text);
            text.append(CLAUSES[clause]).append(' ');
            int deep = random.nextInt(5) == 0 ? 4 + random.nextInt(6) : random.nextInt(3);
            if (clause < 4) sum(text, deep); else any(text, deep, clause == 5);
            text.append(';');
        }
        if (broken) {
            for (int i = 1 + random.nextInt(2); i > 0; i--) {
                int at = random.nextInt(text.length() + 1);
                String junk = JUNK[random.nextInt(JUNK.length)];
                int to = Math.min(text.length(), at + random.nextInt(3));
                text.replace(at, to, junk);
            }
            if (random.nextInt(4) == 0) text.setLength(random.nextInt(text.length() + 1));
        }
        if (text.length() > 480) text.setLength(480);
        return text.toString();
    }

    private void blank(StringBuilder text) {
        while (random.nextInt(4) == 0) text.append(random.nextInt(3) == 0 ? '\n' : ' ');
    }

    private void sum(StringBuilder text, int deep) {
        product(text, deep);
        for (int i = 0; i < 3 && random.nextInt(3) == 0; i++) {
            blank(text);
            text.append(random.nextBoolean() ? '+' : '-');
            product(text, deep);
        }
    }

    private void product(StringBuilder text, int deep) {
        factor(text, deep);
        for (int i = 0; i < 3 && random.nextInt(3) == 0; i++) {
            blank(text);
            text.append(random.nextInt(3) > 0 ? '*' : '/');
            factor(text, deep);
        }
    }

    private void factor(StringBuilder text, int deep) {
        blank(text);
        if (deep > 0 && random.nextInt(2) == 0) {
            text.append('(');
            sum(text, deep - 1);
            text.append(')');
        } else if (random.nextInt(5) < 2) {
            number(text);
        } else {
            text.append(Model.NAMES.get(random.nextInt(Model.NAMES.size())));
        }
    }

    private void number(StringBuilder text) {
        switch (random.nextInt(8)) {
            case 0: text.append(99999); break;
            case 1: text.append(random.nextInt(100000)); break;
            case 2: text.append("000").append(random.nextInt(1000)); break;
            default: text.append(random.nextInt(12));
        }
    }

    private void any(StringBuilder text, int deep, boolean show) {
        each(text, deep, show);
        while (random.nextInt(3) == 0) {
            text.append(" or ");
            each(text, deep, show);
        }
    }

    private void each(StringBuilder text, int deep, boolean show) {
        holds(text, deep, show);
        while (random.nextInt(4) == 0) {
            text.append(" and ");
            holds(text, deep, show);
        }
    }

    private void holds(StringBuilder text, int deep, boolean show) {
        blank(text);
        int way = random.nextInt(deep > 0 ? 4 : 2);
        if (way == 2) {
            text.append("not ");
            holds(text, deep - 1, show);
        } else if (way == 3) {
            text.append('[');
            any(text, deep - 1, show);
            text.append(']');
        } else if (show && random.nextInt(3) == 0) {
            text.append("own=1");
        } else {
            sum(text, deep);
            text.append("<>=".charAt(random.nextInt(3)));
            sum(text, deep);
        }
    }
}
