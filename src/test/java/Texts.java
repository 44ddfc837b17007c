import java.util.List;
import java.util.Random;

/** Makes texts for ModelTest: right ones, ones with something wrong in them, ones at the document's limits. */
final class Texts {
    private static final List<String> LAW_WORDS = List.of("long", "short", "area", "round", "tight", "edge", "way", "total");
    private static final List<String> RULE_WORDS = List.of("length", "round", "used", "kind", "way", "place", "ends", "now");
    private static final String ODD = "0123456789 ;[]<>=+-*/MVabisnot_\u0000\u00ff";

    private final Random random;

    Texts(Random random) { this.random = random; }

    private <T> T one(List<T> list) { return list.get(random.nextInt(list.size())); }

    private boolean chance(int percent) { return random.nextInt(100) < percent; }

    private String value(List<String> words) {
        return chance(50) ? one(words) : "" + (chance(70) ? random.nextInt(12) : random.nextInt(1200));
    }

    private String sum(List<String> words) {
        StringBuilder s = new StringBuilder(value(words));
        while (chance(35)) s.append(one(List.of("+", " - ", "*", " / "))).append(value(words));
        return s.toString();
    }

    private String fact(List<String> words, int deep) {
        if (deep < 12 && chance(12)) return "not " + fact(words, deep + 1);
        if (deep < 12 && chance(15)) return "[" + test(words, deep + 1) + "]";
        return sum(words) + one(List.of("<", "<=", "=", ">=", ">", " < ", " >= ")) + sum(words);
    }

    private String test(List<String> words, int deep) {
        StringBuilder s = new StringBuilder(fact(words, deep));
        while (chance(20)) s.append(chance(50) ? " and " : " or ").append(fact(words, deep));
        return s.toString();
    }

    private String law() {
        StringBuilder s = new StringBuilder();
        int many = 1 + random.nextInt(3);
        for (int i = 0; i < many; i++) {
            if (i > 0) s.append(";");
            int sort = i == 0 && chance(60) ? 0 : random.nextInt(10);
            if (sort < 5) s.append("breaks ").append(chance(50) ? "" + random.nextInt(1300) : sum(LAW_WORDS) + " * 40");
            else if (sort < 8) s.append("at ").append(chance(50) ? "" + random.nextInt(1300) : sum(LAW_WORDS) + "*9");
            else s.append("soft ").append(1 + random.nextInt(chance(50) ? 8 : 104));
            if (sort < 8 && chance(40)) s.append(" if ").append(test(LAW_WORDS, 0));
        }
        return s.toString();
    }

    private String doing() {
        StringBuilder s = new StringBuilder();
        int many = 1 + random.nextInt(chance(10) ? 14 : 5);
        for (int i = 0; i < many; i++) {
            if (i > 0) s.append(one(List.of(";", " ; ")));
            int sort = random.nextInt(10);
            if (sort < 5) s.append("press ").append(1 + random.nextInt(99));
            if (sort < 5 && chance(50)) s.append(" times ").append(1 + random.nextInt(chance(70) ? 5 : 60));
            if (sort > 4 && sort < 8) s.append("fold ").append(chance(50) ? "upright " : "level ").append(1 + random.nextInt(30));
            if (sort > 7) s.append("turn");
        }
        return s.toString();
    }

    private String rule() {
        StringBuilder s = new StringBuilder();
        int many = 1 + random.nextInt(3);
        for (int i = 0; i < many; i++) {
            if (i > 0) s.append(";");
            s.append(chance(60) ? "see " : "miss ").append(test(RULE_WORDS, 0));
        }
        return s.toString();
    }

    private String strip() {
        StringBuilder s = new StringBuilder("" + (1 + random.nextInt(9)));
        int many = chance(10) ? 18 + random.nextInt(5) : random.nextInt(12);
        for (int i = 0; i < many; i++) {
            s.append(chance(60) ? "M" : " V ").append(1 + random.nextInt(chance(90) ? 9 : 10005));
        }
        return s.toString();
    }

    /** Many of one thing: these come to the limits of CLAUSES, VALUES and depth. */
    private String long_(int sort) {
        if (sort == 1) return "turn;".repeat(8 + random.nextInt(6)) + "turn";
        if (sort == 3) return "1M".repeat(18 + random.nextInt(5)) + "1";
        String begin = sort == 0 ? "breaks 1 if " : "see ";
        return switch (random.nextInt(4)) {
            case 0 -> begin + "1" + "+1".repeat(50 + random.nextInt(12)) + "=1" + "+1".repeat(random.nextInt(5));
            case 1 -> begin + one(List.of("[", "not ")).repeat(7 + random.nextInt(5)) + "1=1" + "]".repeat(9 + random.nextInt(3));
            case 2 -> (begin + "1=1;").repeat(11 + random.nextInt(2)) + begin + "1=1";
            default -> begin + "1=1 and ".repeat(17 + random.nextInt(4)) + "way=1" + (chance(50) ? " or 1<now" : "");
        };
    }

    String make(int sort) {
        String text = chance(8) ? long_(sort) : switch (sort) {
            case 0 -> law();
            case 1 -> doing();
            case 2 -> rule();
            default -> strip();
        };
        StringBuilder s = new StringBuilder(text.length() > 400 ? text.substring(0, 400) : text);
        while (chance(12)) {
            int at = random.nextInt(s.length() + 1);
            int kind = random.nextInt(3);
            if (kind == 0) s.insert(at, ODD.charAt(random.nextInt(ODD.length())));
            else if (at < s.length() && kind == 1) s.deleteCharAt(at);
            else s.setLength(at);
        }
        return s.length() > 400 ? s.substring(0, 400) : s.toString();
    }
}
