import java.util.ArrayList;
import java.util.List;
import java.util.Random;

/** Texts of stores, made by chance from a number, so that a run can be had again. */
final class RandomTexts {
    private static final String[] SORTS = {"task", "task", "task", "soft", "hard"};
    private final Random chance;

    RandomTexts(Random chance) {
        this.chance = chance;
    }

    /** A text without a fault, if it is not too long. */
    String text(int mostPrograms, int mostSteps) {
        StringBuilder text = new StringBuilder();
        int kinds = 1 + chance.nextInt(chance.nextInt(4) == 0 ? 8 : 4);
        for (int i = 0; i < kinds; i++) {
            text.append("kind ").append((char) ('a' + i)).append(';');
        }
        int locks = 1 + chance.nextInt(chance.nextInt(4) == 0 ? 10 : 5);
        for (int i = 0; i < locks; i++) {
            text.append("lock ").append((char) ('k' + i)).append(" of ").append((char) ('a' + chance.nextInt(kinds))).append(';');
        }
        int programs = 1 + chance.nextInt(mostPrograms);
        boolean orders = chance.nextInt(3) == 0;
        for (int i = 0; i < programs; i++) {
            text.append(SORTS[i == 0 && chance.nextInt(8) > 0 ? 0 : chance.nextInt(SORTS.length)]);
            text.append(" p").append((char) ('a' + i));
            boolean orderly = orders && mostSteps > 4;
            for (String step : orderly ? nested(mostSteps, locks) : steps(1 + chance.nextInt(mostSteps), locks)) {
                text.append(' ').append(step);
            }
            text.append(chance.nextInt(3) == 0 ? ";\n" : ";");
        }
        return text.toString();
    }

    /** Mostly takes with their drops behind, nested or not; some steps by chance alone. */
    private List<String> steps(int count, int locks) {
        List<String> steps = new ArrayList<>();
        List<Integer> held = new ArrayList<>();
        boolean tidy = chance.nextInt(4) > 0;
        while (steps.size() < count) {
            int left = count - steps.size();
            int pick = chance.nextInt(12);
            if (tidy && !held.isEmpty() && (held.size() >= left || pick < 3)) {
                steps.add("drop " + name(held.remove(chance.nextInt(4) == 0 ? chance.nextInt(held.size()) : held.size() - 1)));
            } else if (pick < 9) {
                int lock = chance.nextInt(locks);
                String[] deeds = {"take", "take", "take", "take", "inner", "share", "try", tidy ? "take" : "drop"};
                if (tidy && held.contains(lock) && chance.nextInt(4) > 0) {
                    continue;
                }
                steps.add(deeds[chance.nextInt(deeds.length)] + " " + name(lock));
                if (!held.contains(lock)) {
                    held.add(lock);
                }
            } else {
                steps.add(new String[] {"off", "on", "mask", "open"}[chance.nextInt(4)]);
            }
        }
        return steps;
    }

    /** Locks taken one in another, none twice: what waits here waits for others. */
    private List<String> nested(int mostSteps, int locks) {
        List<String> steps = new ArrayList<>();
        if (chance.nextInt(3) > 0) {
            steps.add("off");
        }
        List<Integer> held = new ArrayList<>();
        int depth = 2 + chance.nextInt(mostSteps / 2 - 1);
        for (int tries = 0; tries < 9 && held.size() < depth && steps.size() + held.size() < mostSteps - 1; tries++) {
            int lock = chance.nextInt(locks);
            if (!held.contains(lock)) {
                steps.add((chance.nextInt(5) == 0 ? "share " : "take ") + name(lock));
                held.add(lock);
            }
        }
        while (!held.isEmpty()) {
            steps.add("drop " + name(held.remove(held.size() - 1)));
        }
        return steps;
    }

    private static char name(int lock) {
        return (char) ('k' + lock);
    }

    /** A text with some bytes changed, put in, or left out: most of these have a fault. */
    String spoilt(String text) {
        StringBuilder spoilt = new StringBuilder(text);
        String signs = " ;abklpof\nX1\u00e9\r\t{";
        for (int n = 1 + chance.nextInt(3); n > 0 && spoilt.length() > 0; n--) {
            int at = chance.nextInt(spoilt.length());
            char sign = signs.charAt(chance.nextInt(signs.length()));
            switch (chance.nextInt(5)) {
                case 0 -> spoilt.setCharAt(at, sign);
                case 1 -> spoilt.insert(at, sign);
                case 2 -> spoilt.deleteCharAt(at);
                case 3 -> spoilt.setLength(at);
                default -> swapTokens(spoilt);
            }
        }
        return spoilt.toString();
    }

    private void swapTokens(StringBuilder text) {
        String[] words = {"kind", "lock", "of", "task", "take", "off", "k", "a", "pa", ";", "kind z;", "lock y of a;", "hard w off;"};
        String word = words[chance.nextInt(words.length)];
        int at = chance.nextInt(text.length());
        while (at > 0 && text.charAt(at) != ' ' && text.charAt(at) != ';') {
            at--;
        }
        int to = at + 1;
        while (to < text.length() && text.charAt(to) != ' ' && text.charAt(to) != ';') {
            to++;
        }
        if (chance.nextBoolean()) {
            text.replace(Math.min(at + 1, text.length()), to, word);
        } else {
            text.insert(at, " " + word + " ");
        }
    }
}
