/** All that can be seen of a belt by calls that change nothing, but for status(): some hundred calls. */
final class Picture {
    private Picture() {
    }

    static String of(LuggageBelt x) {
        StringBuilder seen = new StringBuilder("rows ").append(x.count(0));
        seen.append(" acts ").append(x.count(6)).append(" tape ").append(x.count(7)).append(" fault ").append(x.fault());
        seen.append(" trace ");
        for (int i = 0; i < 7; i++) {
            seen.append(x.trace(i)).append(' ');
        }
        return seen.append(ofHall(x)).toString();
    }

    static String ofHall(LuggageBelt x) {
        StringBuilder seen = new StringBuilder("tick ").append(x.count(3)).append(" sets ");
        for (int what = 0; what < 7; what++) {
            seen.append(x.stand(what)).append(' ');
        }
        seen.append("places ");
        for (int place = 0; x.place(place) != LuggageBelt.BAD && place < 12; place++) {
            seen.append(x.place(place)).append(' ');
        }
        for (int one = 0; x.kind(one) != LuggageBelt.BAD && one < 6; one++) {
            seen.append("one ").append(x.kind(one)).append(' ');
            for (int what = 0; what < 4; what++) {
                seen.append(x.traveller(one, what)).append(' ');
            }
            seen.append(x.bag(one, 0)).append(' ').append(x.bag(one, 1)).append(' ');
        }
        return seen.toString();
    }
}
