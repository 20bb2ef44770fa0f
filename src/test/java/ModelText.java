import java.util.ArrayList;
import java.util.List;

/** The TEXT read by signs with places: first all signs (a NUMBER is one), then what they tell. */
final class ModelText {
    int fault = -1;
    final List<Model.Knot> knots = new ArrayList<>();

    private record Sign(char kind, int at, String digits) { }

    @SuppressWarnings("serial")
    private static final class Fault extends RuntimeException {
        final int at;

        Fault(int at) {
            this.at = at;
        }
    }

    private final List<Sign> signs = new ArrayList<>();
    private int next = 0;

    ModelText(byte[] tape) {
        String text = new String(tape, java.nio.charset.StandardCharsets.ISO_8859_1);
        java.util.regex.Matcher m = java.util.regex.Pattern.compile("[0-9]+|[^ ]", java.util.regex.Pattern.DOTALL).matcher(text);
        while (m.find()) {
            char c = m.group().charAt(0);
            signs.add(new Sign(c >= '0' && c <= '9' ? '0' : c, m.start(), m.group()));
        }
        signs.add(new Sign('E', tape.length, ""));
        try {
            parts();
        } catch (Fault f) {
            fault = f.at;
        }
    }

    private boolean at(char kind) {
        Sign s = signs.get(next);
        boolean end = next == signs.size() - 1;
        return s.kind() == kind && end == (kind == 'E');
    }

    private Sign must(char kind) {
        if (!at(kind)) {
            throw new Fault(signs.get(next).at());
        }
        return signs.get(next++);
    }

    private void parts() {
        Fraction lastX = null;
        boolean fresh = true;
        do {
            int place = signs.get(next).at();
            if (knots.size() == 12) {
                throw new Fault(place);
            }
            Fraction x = fraction();
            if (lastX != null && (fresh ? x.below(lastX) : !lastX.below(x))) {
                throw new Fault(place);
            }
            must(',');
            Fraction y = fraction();
            if (!fresh) {
                Model.Knot ahead = knots.remove(knots.size() - 1);
                knots.add(new Model.Knot(ahead.x(), ahead.y(), true));
            }
            knots.add(new Model.Knot(x, y, false));
            lastX = x;
            fresh = at('|');
            next += fresh ? 1 : 0;
        } while (!at('E') || fresh);
    }

    private Fraction fraction() {
        int place = signs.get(next).at();
        int sign = at('-') ? -1 : 1;
        next += sign < 0 ? 1 : 0;
        long top = number(0, 9999);
        long bottom = 1;
        if (at('/')) {
            next++;
            bottom = number(1, 60);
        }
        Fraction told = Fraction.of(sign * top, bottom);
        if (!Model.isStoredPlace(told)) {
            throw new Fault(place);
        }
        return told;
    }

    private long number(int least, int most) {
        Sign s = must('0');
        java.math.BigInteger n = new java.math.BigInteger(s.digits());
        if (n.bitLength() > 40 || n.longValue() < least || n.longValue() > most) {
            throw new Fault(s.at());
        }
        return n.longValue();
    }
}
