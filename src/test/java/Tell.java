/** LINES of a town's text. */
final class Tell {
    private Tell() {
    }

    static String town(int nights, int law, int quiet, int odds) {
        return "town nights " + nights + " law " + law + " quiet " + quiet + " odds " + odds + ";";
    }

    static String pig(int room, int slot) {
        return "pig room " + room + " slot " + slot + ";";
    }

    static String hope(int size, int loud, int worth) {
        return "hope size " + size + " loud " + loud + " worth " + worth + ";";
    }

    static String drop(int hope, int pig, int night) {
        return "drop " + hope + " in " + pig + " at " + night + ";";
    }

    static String thief(int night, int pig, int fingers) {
        return "thief at " + night + " from " + pig + " fingers " + fingers + ";";
    }
}
