/** Makes houses and asks them in short words. */
final class Houses {
    static Comparatory of(int wires) {
        Comparatory house = new Comparatory();
        house.network(wires);
        return house;
    }

    static Comparatory made(int wires, int what) {
        Comparatory house = of(wires);
        house.make(what);
        return house;
    }

    /** Digits by pairs, each a first wire and an other one: "0123" is of 0 and 1, then of 2 and 3. */
    static Comparatory with(int wires, String pairs) {
        Comparatory house = of(wires);
        for (int i = 0; i < pairs.length(); i += 2) {
            house.add(pairs.charAt(i) - '0', pairs.charAt(i + 1) - '0');
        }
        return house;
    }

    static String pairs(Comparatory house) {
        StringBuilder pairs = new StringBuilder();
        for (int i = 0; i < house.told(1); i++) {
            pairs.append(house.comparator(i, 0)).append(house.comparator(i, 1));
        }
        return pairs.toString();
    }

    static String text(Comparatory house) {
        StringBuilder text = new StringBuilder();
        for (int place = 0; place < house.told(5); place++) {
            text.append(house.textAt(place));
        }
        return text.toString();
    }

    static String layers(Comparatory house) {
        StringBuilder layers = new StringBuilder();
        for (int i = 0; i < house.told(1); i++) {
            layers.append(house.comparator(i, 2));
        }
        return layers.toString();
    }

    static long packed(String characters) {
        long packed = 0;
        for (int i = 0; i < characters.length(); i++) {
            packed |= (long) (characters.charAt(i) & 255) << (8 * i);
        }
        return packed;
    }

    /** Wipes the tape and types a text of any length. */
    static void typeAnew(Comparatory house, String text) {
        house.wipe();
        for (int from = 0; from < text.length(); from += 8) {
            String part = text.substring(from, Math.min(text.length(), from + 8));
            house.type(packed(part), part.length());
        }
    }

    static int faultOf(Comparatory house, String text) {
        typeAnew(house, text);
        return house.fault();
    }

    static Comparatory full(int wires) {
        Comparatory house = of(wires);
        for (int i = 0; i < 24; i++) {
            house.add(0, 1);
        }
        return house;
    }

}
