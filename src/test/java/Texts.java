import java.util.Random;

/** Random HALLS and LAWS, right ones and spoilt ones, and how a text is fed. */
final class Texts {
    private final Random random;

    Texts(Random random) {
        this.random = random;
    }

    static int[] words(String part) {
        int[] words = new int[5];
        for (int k = 0; k < part.length(); k++) {
            words[k / 4] |= part.charAt(k) << 8 * (3 - k % 4);
        }
        return words;
    }

    static int feed(ThreeLifts x, String text) {
        int answer = x.count(2);
        for (int k = 0; k < text.length(); k += 20) {
            int[] w = words(text.substring(k, Math.min(text.length(), k + 20)));
            answer = x.feed(w[0], w[1], w[2], w[3], w[4]);
        }
        return answer;
    }

    /** The tape is this text alone. */
    static ThreeLifts tape(ThreeLifts x, String text) {
        x.end(0);
        feed(x, text);
        return x;
    }

    static ThreeLifts hall(String text) {
        ThreeLifts x = tape(new ThreeLifts(), text);
        if (x.text(0) < 1) {
            throw new AssertionError("no hall: " + text);
        }
        return x;
    }

    static int addLaw(ThreeLifts x, String text) {
        return tape(x, text).text(1);
    }

    private String blank() {
        return random.nextInt(12) == 0 ? " ".repeat(1 + random.nextInt(2)) : "";
    }

    private int between(int low, int high) {
        return low + random.nextInt(high - low + 1);
    }

    private String items(String letters, int[] low, int[] high, int chance) {
        StringBuilder s = new StringBuilder();
        int start = random.nextInt(letters.length());
        for (int k = 0; k < letters.length(); k++) {
            int which = (start + k * 7) % letters.length();
            if (random.nextInt(100) < chance) {
                int number = between(low[which], high[which]);
                s.append(blank()).append(letters.charAt(which)).append(blank());
                s.append(number < 10 && random.nextInt(6) == 0 ? "0" : "").append(number);
            }
        }
        return s.append(blank()).toString();
    }

    String hall(int lifters, int tries) {
        StringBuilder s = new StringBuilder();
        int at = random.nextInt(lifters + 1);
        boolean heavy = random.nextInt(6) == 0;
        for (int k = 0; k <= lifters; k++) {
            if (k == at) {
                s.append(s.length() > 0 ? ";" : "").append(blank()).append("r").append(blank()).append("t").append(tries);
                s.append(items("cse", new int[] {0, 1, 0}, new int[] {2, 5, 1}, 60));
            }
            if (k < lifters) {
                int low = heavy ? 88 : 38;
                int high = heavy ? 99 : 62;
                s.append(s.length() > 0 ? ";" : "").append(blank()).append("l");
                s.append(items("sjbdfcwopm", new int[] {low, low, 55, 1, 0, 0, 0, low, low, 1},
                        new int[] {high, high, 62, 9, 9, 9, 9, high, high, 9}, lifters > 4 ? 40 : 60));
            }
        }
        return s.toString();
    }

    private String atom(int depth, String letters) {
        int kind = random.nextInt(depth < 5 ? 5 : 4);
        if (kind == 4) {
            return "[" + blank() + sum(depth + 1, letters) + blank() + "]";
        }
        return kind < 2 ? "" + random.nextInt(random.nextInt(5) == 0 ? 10000 : 120)
                : "" + letters.charAt(random.nextInt(letters.length()));
    }

    private String term(int depth, String letters) {
        StringBuilder s = new StringBuilder(atom(depth, letters));
        for (int k = random.nextInt(3); k > 1; k--) {
            s.append(blank()).append("*/".charAt(random.nextInt(2))).append(blank()).append(atom(depth, letters));
        }
        return s.toString();
    }

    private String sum(int depth, String letters) {
        StringBuilder s = new StringBuilder(term(depth, letters));
        for (int k = random.nextInt(3); k > 0; k--) {
            s.append(blank()).append("+-".charAt(random.nextInt(2))).append(blank()).append(term(depth, letters));
        }
        return s.toString();
    }

    private String unit(int depth, String letters) {
        int kind = random.nextInt(depth < 5 ? 6 : 4);
        if (kind == 4) {
            return "!" + blank() + unit(depth + 1, letters);
        }
        if (kind == 5) {
            return "(" + blank() + condition(depth + 1, letters) + ")";
        }
        return sum(depth, letters) + blank() + "=<>".charAt(random.nextInt(3)) + blank() + sum(depth, letters);
    }

    private String condition(int depth, String letters) {
        StringBuilder s = new StringBuilder(unit(depth, letters));
        for (int k = random.nextInt(4); k > 1; k--) {
            s.append(blank()).append("&|".charAt(random.nextInt(2))).append(blank()).append(unit(depth, letters));
        }
        return s.toString();
    }

    /** A right law of at most 240 bytes that mostly speaks of these letters. */
    String law(String letters) {
        for (int tries = 0; tries < 1000; tries++) {
            StringBuilder s = new StringBuilder();
            for (int k = 1 + random.nextInt(3); k > 0; k--) {
                s.append(s.length() > 0 ? ";" : "").append(blank()).append("y").append(blank()).append(":").append(blank());
                if (random.nextInt(3) > 0) {
                    s.append(condition(0, letters)).append(blank()).append("?").append(blank());
                }
                s.append(sum(0, letters)).append(blank());
            }
            if (s.length() <= 240) {
                return s.toString();
            }
        }
        return "y:50";
    }

    /** The text with one or two bytes taken away, put in, or made others. */
    String spoilt(String text, String signs) {
        StringBuilder s = new StringBuilder(text);
        for (int k = 1 + random.nextInt(2); k > 0; k--) {
            int at = random.nextInt(s.length() + 1);
            char sign = random.nextInt(30) == 0 ? (char) (1 + random.nextInt(255))
                    : signs.charAt(random.nextInt(signs.length()));
            int kind = random.nextInt(4);
            if (kind == 0 && at < s.length()) {
                s.deleteCharAt(at);
            } else if (kind == 1 && at < s.length()) {
                s.setCharAt(at, sign);
            } else if (kind == 2) {
                s.setLength(at);
            } else {
                s.insert(at, sign);
            }
        }
        return s.length() > 240 ? s.substring(0, 240) : s.toString();
    }
}
