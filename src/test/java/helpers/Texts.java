/** Pieces of texts that tests are made of: names are ka .., la .., pa .. as they are numbered. */
final class Texts {
    private Texts() {
    }

    static String letter(int i) {
        return String.valueOf((char) ('a' + i));
    }

    static String kinds(int count) {
        StringBuilder text = new StringBuilder();
        for (int i = 0; i < count; i++) {
            text.append("kind k").append(letter(i)).append(';');
        }
        return text.toString();
    }

    /** Locks, each of the kind of its number, and round again behind the last kind. */
    static String locks(int count, int kinds) {
        StringBuilder text = new StringBuilder();
        for (int i = 0; i < count; i++) {
            text.append("lock l").append(letter(i)).append(" of k").append(letter(i % kinds)).append(';');
        }
        return text.toString();
    }

    static String kindsAndLocks(int count) {
        return kinds(count) + locks(count, count);
    }

    static String program(String sort, int number, String steps) {
        return sort + " p" + letter(number) + " " + steps.trim() + ";";
    }

    /** Tasks, one for each telling of steps. */
    static String tasks(String... steps) {
        StringBuilder text = new StringBuilder();
        for (int i = 0; i < steps.length; i++) {
            text.append(program("task", i, steps[i]));
        }
        return text.toString();
    }

    /**
     * Steps of which some lie ahead of or behind a hold of la, some within it: so many places where
     * it is free, so many where it is held.
     */
    static String holding(int free, int held) {
        return " on".repeat(free - 2) + " take la" + " on".repeat(held - 1) + " drop la";
    }

    /** Four tasks that can't be stuck, with just so many moments: 3,999, 4,000 or 4,001. */
    static String freeWith(int moments) {
        int[] of = moments == 3999 ? new int[] {2, 7, 5, 4, 7, 5, 9, 3}
                : moments == 4000 ? new int[] {2, 1, 7, 6, 10, 2, 10, 3} : new int[] {2, 7, 5, 6, 7, 3, 9, 2};
        return kindsAndLocks(1) + tasks(holding(of[0], of[1]), holding(of[2], of[3]), holding(of[4], of[5]),
                holding(of[6], of[7]));
    }

    /** Four tasks of which the 3,999th, 4,000th or 4,001st moment is the first that is stuck. */
    static String stuckAt(int moment) {
        String one = " take la take lb";
        String other = " take lb take la";
        String programs = moment == 3999 ? tasks(ons(9), ons(11), ons(9) + one, ons(5) + other)
                : moment == 4000 ? tasks(ons(10), ons(8) + one, ons(9), ons(6) + other)
                : tasks(ons(10) + other, ons(5) + one, ons(9), ons(10));
        return kindsAndLocks(2) + programs;
    }

    /** Five tasks that can be stuck all together alone; the moment is the 3,999th, 4,000th or 4,001st. */
    static String ringAt(int moment) {
        String programs = moment == 3999 ? tasks("on on on take la take lb", "on on take lb on on take lc", "on on on take lc take ld",
                "on take ld on take le", "take le on on take la")
                : moment == 4000 ? tasks("on on on take la on take lb", "on on on take lb on take lc", "take lc on take ld",
                "on on take ld take le", "on on on take le take la")
                : tasks("on on on take la take lb", "on on on take lb on on take lc", "on take lc on take ld",
                "on take ld on take le", "on on take le take la");
        return kindsAndLocks(5) + programs;
    }

    /**
     * Tasks in a ring, each of twelve steps: all but the last within a hold of la, which they come to one
     * by one, so that a long way has few moments. Eleven moves of each lead to what is stuck.
     */
    static String longRing(int tasks) {
        String[] steps = new String[tasks];
        for (int i = 0; i < tasks; i++) {
            steps[i] = "take la" + ons(8) + " take l" + letter(1 + i) + " drop la take l" + letter(1 + (i + 1) % tasks);
        }
        return kinds(1) + locks(tasks + 1, 1) + tasks(steps);
    }

    static String ons(int count) {
        return " on".repeat(count);
    }
}
