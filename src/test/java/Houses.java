/** Texts of houses that several tests use. */
final class Houses {
    private Houses() { }

    /** 'can' of one person at works 0 to n - 1. */
    static String canAll(int person, int works, int skill) {
        StringBuilder text = new StringBuilder();
        for (int w = 0; w < works; w++) {
            text.append("can ").append(person).append(' ').append(w).append(' ').append(skill).append(';');
        }
        return text.toString();
    }

    /** Works of one hour each, one behind the other. */
    static String worksInTurn(int works) {
        StringBuilder text = new StringBuilder();
        for (int w = 0; w < works; w++) {
            text.append("work ").append(w).append(" 1;");
        }
        return text.toString();
    }

    /** One who is always drawn, and works of all 24 hours. */
    static String ofOne() {
        return "person 24 drawn 1000;work 0 8;work 8 8;work 16 8;can 0 0 1;can 0 1 5;can 0 2 9;forget 1;";
    }

    /** 6 people, 8 works, 8 teachings, chances of 1000 in all, the longest forget, and all of the tape's 800 bytes. */
    static String full() {
        StringBuilder text = new StringBuilder("person 24 drawn 500;" + "person 9 drawn 100;".repeat(5));
        for (int w = 0; w < 8; w++) {
            text.append("work ").append(3 * w).append(' ').append(w % 3 + 1).append(';');
        }
        for (int i = 0; i < 40; i++) {
            text.append("can ").append(i / 8).append(' ').append(i % 8).append(' ').append(i * 5 % 9 + 1).append(';');
        }
        for (int w = 0; w < 8; w++) {
            text.append("learn 5 ").append(w).append(" 9 ").append(99 - w).append(';');
        }
        return text + "\n".repeat(790 - text.length()) + "forget 50;";
    }

    /** 6 people who can nothing and have no hours, 8 works at one hour, 8 teachings. */
    static String idle() {
        StringBuilder text = new StringBuilder("person 0 drawn 166;".repeat(6) + "work 16 8;".repeat(8));
        for (int w = 0; w < 8; w++) {
            text.append("learn ").append(w % 6).append(' ').append(w).append(" 1 1;");
        }
        return text.toString();
    }
}
